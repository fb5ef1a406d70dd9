/-! FORMS OF TYPES OF A KIND, and of those among them with a certain scheme inside. -/
section PmVo
variable {K : Nat → Bool} {F G Ff Gf FK H : FrT} {t0 fn s2 hv r0 r1 r2 r3 : Nat} {n1 : Nat → Nat}
theorem kdt_cases {d : Nat} {t : Ty} (o : ok d t = true) : (kdt t = 0 ∧ (t = tTop ∨ ∃ k, k < d ∧ t = tVar k)) ∨ (kdt t = 1 ∧ ∃ a b, t = tFun a b ∧ ok d a = true ∧ ok d b = true) ∨ (kdt t = 3 ∧ ∃ b, t = tAll tTop b ∧ ok (d + 1) b = true) ∨ (kdt t = 2 ∧ ∃ a b, t = tAll a b ∧ hd a ≠ 0 ∧ ok d a = true ∧ ok (d + 1) b = true) ∨ (kdt t = 4 ∧ ∃ m x y z, m < 8 ∧ t = tRec m x y z ∧ okl d m 0 x ∧ okl d m 1 y ∧ okl d m 2 z) := by
  rcases ok_cases o with rfl | ⟨j, hj, rfl⟩ | ⟨a, c, rfl, ha, hb⟩ | ⟨a, c, rfl, ha, hb⟩ | ⟨m, x, y, z, hm, rfl, h0, h1, h2⟩
  · exact Or.inl ⟨rfl, Or.inl rfl⟩
  · refine Or.inl ⟨?_, Or.inr ⟨j, hj, rfl⟩⟩
    unfold kdt
    rw [hd_var, if_neg (by omega), if_neg (by omega), if_neg (by omega)]
  · refine Or.inr (Or.inl ⟨?_, a, c, rfl, ha, hb⟩)
    unfold kdt
    rw [hd_fun, if_pos rfl]
  · have ek : k1 (tAll a c) = a := rfl
    by_cases e : hd a = 0
    · have ea : a = tTop := by
        rcases ok_cases ha with e' | ⟨j, hj, rfl⟩ | ⟨x, y, rfl, _, _⟩ | ⟨x, y, rfl, _, _⟩ | ⟨m, x, y, z, hm, rfl, _, _, _⟩
        · exact e'
        · rw [hd_var] at e; omega
        · rw [hd_fun] at e; omega
        · rw [hd_all] at e; omega
        · rw [hd_rec] at e; omega
      refine Or.inr (Or.inr (Or.inl ⟨?_, c, by rw [ea], hb⟩))
      unfold kdt
      rw [hd_all, ek, if_neg (by decide), if_pos rfl, if_pos e]
    · refine Or.inr (Or.inr (Or.inr (Or.inl ⟨?_, a, c, rfl, e, ha, hb⟩)))
      unfold kdt
      rw [hd_all, ek, if_neg (by decide), if_pos rfl, if_neg e]
  · refine Or.inr (Or.inr (Or.inr (Or.inr ⟨?_, m, x, y, z, hm, rfl, h0, h1, h2⟩)))
    unfold kdt
    rw [hd_rec, if_neg (by omega), if_neg (by omega), if_pos (by omega)]
theorem xk_fun (hc : xrc F G t0 fn s2 hv r0 r1 r2 r3 = true) (hf1 : n1 1 ≤ fn) (hr : ∀ m, m < 8 → n1 (8 + m) ≤ (if nlb m = 0 then r0 else if nlb m = 1 then r1 else if nlb m = 2 then r2 else r3)) (hl : xlf F F H fn = true) {t : Ty} {d : Nat} (o : ok d t = true) (hk : tch t ≤ 40) (k : kdt t = 1) : ∃ p ∈ frg H (tch t), XFm t0 n1 s2 hv d t p.1 p.2 := by
  rcases kdt_cases o with h | h | h | h | h
  · omega
  · obtain ⟨-, a, b, rfl, oa, ob⟩ := h
    have hk' := hk
    rw [tch_fun] at hk'
    exact xl_fun hl hf1 oa ob hk (Or.inl ⟨xr_form hc hf1 hr _ a d (Nat.le_refl _) oa (by omega), xr_form hc hf1 hr _ b d (Nat.le_refl _) ob (by omega)⟩)
  · omega
  · omega
  · omega
theorem xk_top (hc : xrc F G t0 fn s2 hv r0 r1 r2 r3 = true) (ht0 : t0 ≤ 1) (hf1 : n1 1 ≤ fn) (hr : ∀ m, m < 8 → n1 (8 + m) ≤ (if nlb m = 0 then r0 else if nlb m = 1 then r1 else if nlb m = 2 then r2 else r3)) (hl : xlt F H s2 hv = true) {t : Ty} {d : Nat} (o : ok d t = true) (hk : tch t ≤ 40) (k : kdt t = 3) : ∃ p ∈ frg H (tch t), XFm t0 n1 s2 hv d t p.1 p.2 := by
  rcases kdt_cases o with h | h | h | h | h
  · omega
  · omega
  · obtain ⟨-, b, rfl, ob⟩ := h
    have hk' := hk
    rw [tch_all] at hk'
    exact xl_top hl ht0 ob hk (xr_form hc hf1 hr _ b (d + 1) (Nat.le_refl _) ob (by omega))
  · omega
  · omega
theorem xk_rec (hc : xrc F G t0 fn s2 hv r0 r1 r2 r3 = true) (hf1 : n1 1 ≤ fn) (hr : ∀ m, m < 8 → n1 (8 + m) ≤ (if nlb m = 0 then r0 else if nlb m = 1 then r1 else if nlb m = 2 then r2 else r3)) (hl : xlr F G F H r1 r2 r3 = true) (h2 : dom 0 r0 (frg H 2) = true) {t : Ty} {d : Nat} (o : ok d t = true) (hk : tch t ≤ 40) (k : kdt t = 4) : ∃ p ∈ frg H (tch t), XFm t0 n1 s2 hv d t p.1 p.2 := by
  rcases kdt_cases o with h | h | h | h | h
  · omega
  · omega
  · omega
  · omega
  · obtain ⟨-, m, x, y, z, hm, rfl, o0, o1, o2⟩ := h
    have all : ∀ (t : Ty), ok d t = true → tch t ≤ 40 → ∃ p ∈ frg F (tch t), XFm t0 n1 s2 hv d t p.1 p.2 := fun t o hk => xr_form hc hf1 hr _ t d (Nat.le_refl _) o hk
    by_cases e : nlb m = 0
    · obtain ⟨l, l1, l2, l3, l4, l5, l6⟩ := rec_list (K := fun _ => false) (t0 := t0) (n1 := n1) (s2 := s2) (hv := hv) o0 o1 o2
      rw [e] at l2
      have e0 := List.eq_nil_of_length_eq_zero l2
      subst e0
      simp only [List.map_nil, List.sum_nil] at l3 l4 l5
      have hn := hr m hm
      rw [if_pos e] at hn
      have em : m = 0 := by
        rcases nlb_cases m hm with h' | h' | h' | h'
        · exact h'.2
        · omega
        · omega
        · omega
      obtain ⟨p, hp, g1, g2⟩ := dom_ex h2
      have e2 : tch (tRec m x y z) = 2 := by
        rw [← l5, em]
        rfl
      rw [e2]
      exact ⟨p, hp, by omega, by omega⟩
    · refine xl_rec hl (fun i j i1 j1 hij => (xrc_p hc i1 j1 hij).1) hr hm o0 o1 o2 hk all (K := fun _ => false) (fun l a1 a2 a3 a4 => ?_)
      match l, a1, a2, a4 with
      | [], _, a2, _ => exact absurd a2.symm e
      | p :: l, a1, _, a4 => exact ⟨p, List.mem_cons_self .., all p (a1 p (List.mem_cons_self ..)) (a4 p (List.mem_cons_self ..))⟩
theorem xh_fun (hc : xrc F G t0 fn s2 hv r0 r1 r2 r3 = true) (hcf : xfc F Ff Gf FK fn s2 hv r1 r2 r3 = true) (ht0 : t0 ≤ 1) (hf1 : n1 1 ≤ fn) (hr : ∀ m, m < 8 → n1 (8 + m) ≤ (if nlb m = 0 then r0 else if nlb m = 1 then r1 else if nlb m = 2 then r2 else r3)) (hK : ∀ (t : Ty) (d : Nat), ok d t = true → tch t ≤ 40 → K (kdt t) = true → ∃ p ∈ frg FK (tch t), XFm t0 n1 s2 hv d t p.1 p.2) (hl : xlf Ff F H fn = true) {t : Ty} {d : Nat} (o : ok d t = true) (hk : tch t ≤ 40) (k : kdt t = 1) (hp : phf K t = true) : ∃ p ∈ frg H (tch t), XFm t0 n1 s2 hv d t p.1 p.2 := by
  rcases kdt_cases o with h | h | h | h | h
  · omega
  · obtain ⟨-, a, b, rfl, oa, ob⟩ := h
    have hk' := hk
    rw [tch_fun] at hk'
    rw [phf_fun, Bool.or_eq_true] at hp
    rcases hp with hp | hp
    · exact xl_fun hl hf1 oa ob hk (Or.inl ⟨xf_form hc hcf ht0 hf1 hr hK _ a d (Nat.le_refl _) oa (by omega) hp, xr_form hc hf1 hr _ b d (Nat.le_refl _) ob (by omega)⟩)
    · exact xl_fun hl hf1 oa ob hk (Or.inr ⟨xf_form hc hcf ht0 hf1 hr hK _ b d (Nat.le_refl _) ob (by omega) hp, xr_form hc hf1 hr _ a d (Nat.le_refl _) oa (by omega)⟩)
  · omega
  · omega
  · omega
theorem xh_top (hc : xrc F G t0 fn s2 hv r0 r1 r2 r3 = true) (hcf : xfc F Ff Gf FK fn s2 hv r1 r2 r3 = true) (ht0 : t0 ≤ 1) (hf1 : n1 1 ≤ fn) (hr : ∀ m, m < 8 → n1 (8 + m) ≤ (if nlb m = 0 then r0 else if nlb m = 1 then r1 else if nlb m = 2 then r2 else r3)) (hK : ∀ (t : Ty) (d : Nat), ok d t = true → tch t ≤ 40 → K (kdt t) = true → ∃ p ∈ frg FK (tch t), XFm t0 n1 s2 hv d t p.1 p.2) (hl : xlt Ff H s2 hv = true) (hl2 : xlt FK H s2 hv = true) {t : Ty} {d : Nat} (o : ok d t = true) (hk : tch t ≤ 40) (k : kdt t = 3) (hp : phf K t = true) : ∃ p ∈ frg H (tch t), XFm t0 n1 s2 hv d t p.1 p.2 := by
  rcases kdt_cases o with h | h | h | h | h
  · omega
  · omega
  · obtain ⟨-, b, rfl, ob⟩ := h
    have hk' := hk
    rw [tch_all] at hk'
    rw [phf_all, phf_top, Bool.false_or, Bool.or_eq_true, Bool.and_eq_true] at hp
    rcases hp with hp | hp
    · exact xl_top hl2 ht0 ob hk (hK b (d + 1) ob (by omega) hp.2)
    · exact xl_top hl ht0 ob hk (xf_form hc hcf ht0 hf1 hr hK _ b (d + 1) (Nat.le_refl _) ob (by omega) hp)
  · omega
  · omega
theorem xh_rec (hc : xrc F G t0 fn s2 hv r0 r1 r2 r3 = true) (hcf : xfc F Ff Gf FK fn s2 hv r1 r2 r3 = true) (ht0 : t0 ≤ 1) (hf1 : n1 1 ≤ fn) (hr : ∀ m, m < 8 → n1 (8 + m) ≤ (if nlb m = 0 then r0 else if nlb m = 1 then r1 else if nlb m = 2 then r2 else r3)) (hK : ∀ (t : Ty) (d : Nat), ok d t = true → tch t ≤ 40 → K (kdt t) = true → ∃ p ∈ frg FK (tch t), XFm t0 n1 s2 hv d t p.1 p.2) (hl : xlr Ff Gf F H r1 r2 r3 = true) {t : Ty} {d : Nat} (o : ok d t = true) (hk : tch t ≤ 40) (k : kdt t = 4) (hp : phf K t = true) : ∃ p ∈ frg H (tch t), XFm t0 n1 s2 hv d t p.1 p.2 := by
  rcases kdt_cases o with h | h | h | h | h
  · omega
  · omega
  · omega
  · omega
  · obtain ⟨-, m, x, y, z, hm, rfl, o0, o1, o2⟩ := h
    have all : ∀ (t : Ty), ok d t = true → tch t ≤ 40 → ∃ p ∈ frg F (tch t), XFm t0 n1 s2 hv d t p.1 p.2 := fun t o hk => xr_form hc hf1 hr _ t d (Nat.le_refl _) o hk
    refine xl_rec hl (fun i j i1 j1 hij => (xfc_p hcf i1 j1 hij).1) hr hm o0 o1 o2 hk all (K := K) (fun l a1 a2 a3 a4 => ?_)
    rw [hp, List.any_eq_true] at a3
    obtain ⟨p, hp1, hp2⟩ := a3
    exact ⟨p, hp1, xf_form hc hcf ht0 hf1 hr hK _ p d (Nat.le_refl _) (a1 p hp1) (a4 p hp1) hp2⟩
end PmVo
