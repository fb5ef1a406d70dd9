/-! THE WALK IS THE SAME: below, and the rows of a comparison. -/
section PmK2
variable {h : Nat}
theorem noh_k1 {s : Ty} (hs : noh h s = true) : noh h (k1 s) = true := by
  unfold k1
  split
  · simp only [noh, Bool.and_eq_true] at hs; exact hs.2.1
  · rfl
theorem noh_k2 {s : Ty} (hs : noh h s = true) : noh h (k2 s) = true := by
  unfold k2
  split
  · simp only [noh, Bool.and_eq_true] at hs; exact hs.2.2
  · rfl
theorem noh_r2 {s : Ty} (hs : noh h s = true) : noh h (r2 s) = true := by
  unfold r2
  split
  · simp only [noh, Bool.and_eq_true] at hs; exact hs.2.2.1
  · rfl
theorem noh_r3 {s : Ty} (hs : noh h s = true) : noh h (r3 s) = true := by
  unfold r3
  split
  · simp only [noh, Bool.and_eq_true] at hs; exact hs.2.2.2
  · rfl
end PmK2
/-- one step of what is no variable does not look at the context -/
theorem stp_nv {Γ : List Ty} {s t : Ty} (hs : ¬ 16 ≤ hd s) : stp Γ s t = (stp [] s t).map (fun l => l.map (fun z => (z.1 ++ Γ, z.2))) := by
  unfold stp
  by_cases n1 : hd t = 0 ∨ (16 ≤ hd s ∧ hd s = hd t)
  · rw [if_pos n1, if_pos n1]; rfl
  rw [if_neg n1, if_neg n1, if_neg hs, if_neg hs]
  by_cases n3 : 8 ≤ hd s ∧ 8 ≤ hd t ∧ hd t < 16
  · rw [if_pos n3, if_pos n3]
    by_cases n6 : (hd s - 8) &&& (hd t - 8) = hd t - 8
    · rw [if_pos n6, if_pos n6]
      have key : ∀ (k : Nat) (x y : Ty), stl Γ (hd t - 8) k x y = (stl [] (hd t - 8) k x y).map (fun z : Tsk => ((z.1 ++ Γ, z.2) : Tsk)) := by
        intro k x y
        unfold stl
        split <;> rfl
      rw [key, key, key]
      simp only [Option.map_some, List.map_append]
    · rw [if_neg n6, if_neg n6]; rfl
  rw [if_neg n3, if_neg n3]
  by_cases n4 : hd s ≠ hd t ∨ hd s = 0
  · rw [if_pos n4, if_pos n4]; rfl
  rw [if_neg n4, if_neg n4]
  by_cases n5 : hd s = 1
  · rw [if_pos n5, if_pos n5]; rfl
  rw [if_neg n5, if_neg n5]
  by_cases n7 : flat (k1 s) = flat (k1 t)
  · rw [if_pos n7, if_pos n7]; rfl
  · rw [if_neg n7, if_neg n7]; rfl
theorem stp_noh {h : Nat} {s t : Ty} (hs : ¬ 16 ≤ hd s) (ns : noh h s = true) (nt : noh h t = true) {l : List Tsk} (e : stp [] s t = some l) : ∀ z ∈ l, noh h z.2.1 = true ∧ noh h z.2.2 = true ∧ ∀ a ∈ z.1, noh h a = true := by
  have nil0 : ∀ a ∈ ([] : List Ty), noh h a = true := fun a ha => by cases ha
  have key : ∀ (m k : Nat) (x y : Ty), noh h x = true → noh h y = true → ∀ z ∈ stl [] m k x y, noh h z.2.1 = true ∧ noh h z.2.2 = true ∧ ∀ a ∈ z.1, noh h a = true := by
    intro m k x y hx hy z hz
    unfold stl at hz
    split at hz
    · rw [List.mem_singleton.mp hz]; exact ⟨hx, hy, nil0⟩
    · cases hz
  unfold stp at e
  by_cases n1 : hd t = 0 ∨ (16 ≤ hd s ∧ hd s = hd t)
  · rw [if_pos n1] at e; cases e
    intro z hz; cases hz
  rw [if_neg n1, if_neg hs] at e
  by_cases n3 : 8 ≤ hd s ∧ 8 ≤ hd t ∧ hd t < 16
  · rw [if_pos n3] at e
    by_cases n6 : (hd s - 8) &&& (hd t - 8) = hd t - 8
    · rw [if_pos n6] at e
      cases e
      intro z hz
      rcases List.mem_append.mp hz with hz | hz
      · exact key _ _ _ _ (noh_r3 ns) (noh_r3 nt) z hz
      · rcases List.mem_append.mp hz with hz | hz
        · exact key _ _ _ _ (noh_r2 ns) (noh_r2 nt) z hz
        · exact key _ _ _ _ (noh_k1 ns) (noh_k1 nt) z hz
    · rw [if_neg n6] at e; cases e
  rw [if_neg n3] at e
  by_cases n4 : hd s ≠ hd t ∨ hd s = 0
  · rw [if_pos n4] at e; cases e
  rw [if_neg n4] at e
  by_cases n5 : hd s = 1
  · rw [if_pos n5] at e
    cases e
    intro z hz
    rcases List.mem_cons.mp hz with rfl | hz
    · exact ⟨noh_k2 ns, noh_k2 nt, nil0⟩
    · rw [List.mem_singleton.mp hz]; exact ⟨noh_k1 nt, noh_k1 ns, nil0⟩
  rw [if_neg n5] at e
  by_cases n7 : flat (k1 s) = flat (k1 t)
  · rw [if_pos n7] at e
    cases e
    intro z hz
    rw [List.mem_singleton.mp hz]
    exact ⟨noh_k2 ns, noh_k2 nt, fun a ha => by rw [List.mem_singleton.mp ha]; exact noh_k1 ns⟩
  · rw [if_neg n7] at e; cases e
/-- the two contexts, both in order -/
def SGc (h : Nat) (B C C' : Ty) (Γ0 Δ : List Ty) : Prop := h < 16 ∧ hd B = h ∧ okc (cxs Δ Γ0 (tAll B C)) ∧ okc (cxs Δ Γ0 (tAll B C')) ∧ nohc h Δ Γ0
/-- what the variable stands for, lifted -/
def upb (Γ0 Δ : List Ty) (b : Ty) : Ty := lft Γ0.length (Δ.length + 1) b
theorem upb_all (Γ0 Δ : List Ty) (B C : Ty) : upb Γ0 Δ (tAll B C) = tAll (upb Γ0 Δ B) (upb Γ0 Δ C) := lft_all _ _ _ _
section PmK3
variable {h : Nat} {B C C' : Ty} {Γ0 Δ : List Ty}
theorem SGc.h16 (s : SGc h B C C' Γ0 Δ) : h < 16 := s.1
theorem SGc.o1 (s : SGc h B C C' Γ0 Δ) : okc (cxs Δ Γ0 (tAll B C)) := s.2.2.1
theorem SGc.o2 (s : SGc h B C C' Γ0 Δ) : okc (cxs Δ Γ0 (tAll B C')) := s.2.2.2.1
theorem SGc.nc (s : SGc h B C C' Γ0 Δ) : nohc h Δ Γ0 := s.2.2.2.2
theorem okc_mid {b : Ty} : ∀ {Δ : List Ty}, okc (cxs Δ Γ0 b) → ok Γ0.length b = true
  | [], ho => ho.1
  | _ :: Δ, ho => okc_mid (Δ := Δ) ho.2
theorem SGc.oB (s : SGc h B C C' Γ0 Δ) : ok Γ0.length B = true := (ok_all.mp (okc_mid s.o1)).1
theorem SGc.hdB (s : SGc h B C C' Γ0 Δ) : hd (upb Γ0 Δ B) = h := by
  unfold upb
  rw [lft_hd s.oB, if_neg (by have := s.1; have := s.2.1; omega)]
  exact s.2.1
theorem SGc.ext (s : SGc h B C C' Γ0 Δ) {a : Ty} (oa : ok (cxs Δ Γ0 (tAll B C)).length a = true) (na : noh h a = true) : SGc h B C C' Γ0 (a :: Δ) :=
  ⟨s.1, s.2.1, ⟨oa, s.o1⟩, ⟨by show ok (cxs Δ Γ0 (tAll B C')).length a = true; rw [cxs_len] at oa ⊢; exact oa, s.o2⟩, ⟨fun x hx => by
    rcases List.mem_cons.mp hx with rfl | hx
    · exact na
    · exact s.nc.1 x hx, s.nc.2⟩⟩
theorem SGc.mk' (s : SGc h B C C' Γ0 Δ) (l : List Ty) (ol : okc (l ++ cxs Δ Γ0 (tAll B C))) (nl : ∀ a ∈ l, noh h a = true) : SGc h B C C' Γ0 (l ++ Δ) := by
  induction l with
  | nil => exact s
  | cons a l ih =>
    have := ih ol.2 (fun x hx => nl x (List.mem_cons_of_mem _ hx))
    refine this.ext ?_ (nl a (List.mem_cons_self ..))
    have := ol.1
    unfold cxs at this ⊢
    rw [List.append_assoc]
    exact this
theorem SGc.k_lt (b : Ty) : Γ0.length < (cxs Δ Γ0 b).length := by rw [cxs_len]; omega
/-- the variable, exposed -/
theorem cxs_up (b : Ty) : lft Γ0.length ((cxs Δ Γ0 b).length - Γ0.length) (bnd (cxs Δ Γ0 b) Γ0.length) = upb Γ0 Δ b := by
  rw [cxs_bnd, cxs_len]
  unfold upb
  congr 1
  omega
theorem SGc.okup (s : SGc h B C C' Γ0 Δ) : ok (cxs Δ Γ0 (tAll B C)).length (upb Γ0 Δ (tAll B C)) = true := by
  have := ok_expose s.o1 (SGc.k_lt (Γ0 := Γ0) (Δ := Δ) (tAll B C))
  rw [cxs_up] at this; exact this
theorem SGc.okup' (s : SGc h B C C' Γ0 Δ) : ok (cxs Δ Γ0 (tAll B C')).length (upb Γ0 Δ (tAll B C')) = true := by
  have := ok_expose s.o2 (SGc.k_lt (Γ0 := Γ0) (Δ := Δ) (tAll B C'))
  rw [cxs_up] at this; exact this
theorem cxs_ll (b b' : Ty) : (cxs Δ Γ0 b).length = (cxs Δ Γ0 b').length := by rw [cxs_len, cxs_len]
/-- another variable, exposed -/
theorem SGc.ex (s : SGc h B C C' Γ0 Δ) {j : Nat} (hj : j < (cxs Δ Γ0 (tAll B C)).length) (ne : j ≠ Γ0.length) : lft j ((cxs Δ Γ0 (tAll B C)).length - j) (bnd (cxs Δ Γ0 (tAll B C)) j) = lft j ((cxs Δ Γ0 (tAll B C')).length - j) (bnd (cxs Δ Γ0 (tAll B C')) j) ∧ noh h (lft j ((cxs Δ Γ0 (tAll B C)).length - j) (bnd (cxs Δ Γ0 (tAll B C)) j)) = true := by
  refine ⟨by rw [cxs_ll (tAll B C) (tAll B C'), cxs_other Γ0 (tAll B C) (tAll B C') ne], ?_⟩
  obtain ⟨ν, ω, -, -, e3, -⟩ := wt_bnd _ j s.o1 hj
  exact noh_lft s.h16 _ _ _ _ j (Nat.le_refl _) e3 (nohc_bnd s.nc hj ne)
/-- the scheme against what has none such -/
theorem SGc.stpL (s : SGc h B C C' Γ0 Δ) (Γ : List Ty) (X : Ty) {t : Ty} {d : Nat} (ot : ok d t = true) (nt : noh h t = true) : stp Γ (tAll (upb Γ0 Δ B) X) t = if hd t = 0 then some [] else none := by
  unfold stp
  rw [hd_all]
  by_cases n0 : hd t = 0
  · rw [if_pos (Or.inl n0), if_pos n0]
  rw [if_neg (by omega), if_neg (by omega), if_neg (by omega), if_neg n0]
  by_cases n2 : hd t = 2
  · obtain ⟨a, c, rfl, oa, oc⟩ := hd_is_all ot n2
    rw [if_neg (by rw [hd_all]; omega), if_neg (by omega)]
    show (if flat (upb Γ0 Δ B) = flat a then _ else none) = none
    rw [if_neg]
    intro e
    have oB : ok (Γ0.length + (Δ.length + 1)) (upb Γ0 Δ B) = true := by
      have := (ok_all.mp (by rw [← upb_all]; exact s.okup)).1
      rw [cxs_len] at this
      rw [show Γ0.length + (Δ.length + 1) = Δ.length + (Γ0.length + 1) by omega]
      exact this
    have := flat_eq oB oa e
    have h1 := s.hdB
    rw [this] at h1
    exact (noh_all.mp nt).1 h1
  · rw [if_pos (Or.inl (fun e => n2 e.symm))]
/-- what has none such against the scheme -/
theorem SGc.stpR (s : SGc h B C C' Γ0 Δ) (Γ : List Ty) (X : Ty) {t : Ty} {d : Nat} (ot : ok d t = true) (nt : noh h t = true) (nv : ¬ 16 ≤ hd t) : stp Γ t (tAll (upb Γ0 Δ B) X) = none := by
  unfold stp
  rw [hd_all]
  rw [if_neg (by omega), if_neg nv, if_neg (by omega)]
  by_cases n2 : hd t = 2
  · obtain ⟨a, c, rfl, oa, oc⟩ := hd_is_all ot n2
    rw [if_neg (by rw [hd_all]; omega), if_neg (by rw [hd_all]; omega)]
    show (if flat a = flat (upb Γ0 Δ B) then _ else none) = none
    rw [if_neg]
    intro e
    have oB : ok (Γ0.length + (Δ.length + 1)) (upb Γ0 Δ B) = true := by
      have := (ok_all.mp (by rw [← upb_all]; exact s.okup)).1
      rw [cxs_len] at this
      rw [show Γ0.length + (Δ.length + 1) = Δ.length + (Γ0.length + 1) by omega]
      exact this
    have := flat_eq oa oB e
    have h1 := s.hdB
    rw [← this] at h1
    exact (noh_all.mp nt).1 h1
  · rw [if_pos (Or.inl n2)]
end PmK3
