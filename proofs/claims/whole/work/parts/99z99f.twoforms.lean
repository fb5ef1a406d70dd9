/-! BODIES WITH TWO HEADERS: their forms. -/
section PmNr
variable {A F G H : FrT} {t0 fn s2 hv r0 r1 r2 r3 d : Nat} {n1 : Nat → Nat}
theorem xl_rep (h : xlr A G F H r1 r2 r3 = true) (hG : ∀ i j, 1 ≤ i → 1 ≤ j → i + j ≤ 40 → ∀ p ∈ frg A i, ∀ q ∈ frg F j, dom (p.1 + q.1) (p.2 + q.2) (frg G (i + j)) = true) (hr : ∀ m, m < 8 → n1 (8 + m) ≤ (if nlb m = 0 then r0 else if nlb m = 1 then r1 else if nlb m = 2 then r2 else r3)) {m : Nat} {x y z : Ty} (hm : m < 8) (o0 : okl d m 0 x) (o1 : okl d m 1 y) (o2 : okl d m 2 z) (hk : tch (tRec m x y z) ≤ 40) (all : ∀ (t : Ty), ok d t = true → tch t ≤ 40 → ∃ p ∈ frg F (tch t), XFm t0 n1 s2 hv d t p.1 p.2) {ρ : Ty → Ty → Bool} (hA : ∀ l : List Ty, (∀ q ∈ l, ok d q = true) → l.length = nlb m → l.any (php ρ) = php ρ (tRec m x y z) → (∀ q ∈ l, tch q ≤ 40) → ∃ p ∈ l, ∃ v ∈ frg A (tch p), XFm t0 n1 s2 hv d p v.1 v.2) : ∃ v ∈ frg H (tch (tRec m x y z)), XFm t0 n1 s2 hv d (tRec m x y z) v.1 v.2 := by
  obtain ⟨l, l1, l2, l3, l4, l5, l6⟩ := rec_lip (ρ := ρ) (t0 := t0) (n1 := n1) (s2 := s2) (hv := hv) o0 o1 o2
  have hn := hr m hm
  have sums : ∀ {l : List Ty} {q : Ty}, q ∈ l → tch q ≤ (l.map tch).sum := by
    intro l q hq
    induction l with
    | nil => cases hq
    | cons a l ih =>
      rw [List.map_cons, List.sum_cons]
      rcases List.mem_cons.mp hq with e | e
      · rw [e]; omega
      · have := ih e; omega
  obtain ⟨p, hp1, v, hv', f1, f2⟩ := hA l (fun q hq => (l1 q hq).1) l2 l6 (fun q hq => by have := sums hq; omega)
  have m0 : m ≠ 0 := by
    intro e
    have e2 : nlb m = 0 := by rw [e]; decide
    rw [e2] at l2
    rw [List.eq_nil_of_length_eq_zero l2] at hp1
    cases hp1
  have rc : rch m = 1 + 2 * nlb m := by unfold rch; rw [if_neg m0]
  have op := l1 p hp1
  have pp := tch_pos op.1
  have hk' := hk
  rw [← l5] at hk'
  unfold xlr at h
  rw [Bool.and_eq_true, Bool.and_eq_true] at h
  obtain ⟨hx1, hx2, hx3⟩ := h
  have nb : nlb m ≤ 3 := by
    unfold nlb
    split <;> split <;> split <;> omega
  have fin : ∀ {l a : Nat} {t : Ty} {k : Nat}, XFm t0 n1 s2 hv d t l a → dom l a (frg H k) = true → ∃ p ∈ frg H k, XFm t0 n1 s2 hv d t p.1 p.2 := by
    intro l a t k g hd
    obtain ⟨p, hp, h1, h2⟩ := dom_ex hd
    exact ⟨p, hp, g.mono h1 h2⟩
  have key : ∀ (l' : List Ty), l'.length + 1 = nlb m → (∀ q ∈ l', ok d q = true) → tch p + (l'.map tch).sum = (l.map tch).sum → xt d p + (l'.map (xt d)).sum = (l.map (xt d)).sum → xa t0 n1 s2 hv d p + (l'.map (xa t0 n1 s2 hv d)).sum = (l.map (xa t0 n1 s2 hv d)).sum → ∃ v ∈ frg H (tch (tRec m x y z)), XFm t0 n1 s2 hv d (tRec m x y z) v.1 v.2 := by
    intro l' e1 e2 e3 e4 e5
    rw [rc] at l5 hk'
    match l', e1, e2, e3, e4, e5 with
    | [], e1, e2, e3, e4, e5 =>
      simp only [List.map_nil, List.sum_nil, List.length_nil] at e1 e3 e4 e5
      rw [if_neg (by omega), if_pos (by omega)] at hn
      rw [← l5, show 1 + 2 * nlb m + (l.map tch).sum = tch p + 3 by omega]
      have q1 := rng_all hx1 (i := tch p - 1) (by omega)
      rw [show tch p - 1 + 1 = tch p by omega, show tch p - 1 + 4 = tch p + 3 by omega] at q1
      exact fin (show XFm t0 n1 s2 hv d (tRec m x y z) v.1 (r1 + v.2) from ⟨by omega, by omega⟩) (List.all_eq_true.mp q1 v hv')
    | [q], e1, e2, e3, e4, e5 =>
      simp only [List.map_cons, List.map_nil, List.sum_cons, List.sum_nil, List.length_cons, List.length_nil] at e1 e3 e4 e5
      have oq := e2 q (by simp)
      have pq := tch_pos oq
      obtain ⟨w, hw, g1, g2⟩ := all q oq (by omega)
      obtain ⟨u, hu, k1, k2⟩ := dom_ex (hG _ _ pp pq (by omega) v hv' w hw)
      rw [if_neg (by omega), if_neg (by omega), if_pos (by omega)] at hn
      rw [← l5, show 1 + 2 * nlb m + (l.map tch).sum = tch p + tch q + 5 by omega]
      have q1 := rng_all hx2 (i := tch p + tch q - 1) (by omega)
      rw [show tch p + tch q - 1 + 1 = tch p + tch q by omega, show tch p + tch q - 1 + 6 = tch p + tch q + 5 by omega] at q1
      exact fin (show XFm t0 n1 s2 hv d (tRec m x y z) u.1 (r2 + u.2) from ⟨by omega, by omega⟩) (List.all_eq_true.mp q1 u hu)
    | [q, q'], e1, e2, e3, e4, e5 =>
      simp only [List.map_cons, List.map_nil, List.sum_cons, List.sum_nil, List.length_cons, List.length_nil] at e1 e3 e4 e5
      have oq := e2 q (by simp)
      have pq := tch_pos oq
      have oq' := e2 q' (by simp)
      have pq' := tch_pos oq'
      obtain ⟨w, hw, g1, g2⟩ := all q oq (by omega)
      obtain ⟨w', hw', g1', g2'⟩ := all q' oq' (by omega)
      obtain ⟨u, hu, k1, k2⟩ := dom_ex (hG _ _ pp pq (by omega) v hv' w hw)
      rw [if_neg (by omega), if_neg (by omega), if_neg (by omega)] at hn
      rw [← l5, show 1 + 2 * nlb m + (l.map tch).sum = (tch p + tch q) + tch q' + 7 by omega]
      have q1 := rng_all (rng_all hx3 (i := tch p + tch q - 1) (by omega)) (i := tch q' - 1) (by omega)
      rw [show tch p + tch q - 1 + 1 = tch p + tch q by omega, show tch q' - 1 + 1 = tch q' by omega, show tch p + tch q - 1 + (tch q' - 1) + 9 = tch p + tch q + tch q' + 7 by omega] at q1
      exact fin (show XFm t0 n1 s2 hv d (tRec m x y z) (u.1 + w'.1) (r3 + (u.2 + w'.2)) from ⟨by omega, by omega⟩) (List.all_eq_true.mp (List.all_eq_true.mp q1 u hu) w' hw')
    | _ :: _ :: _ :: _, e1, _, _, _, _ =>
      simp only [List.length_cons] at e1
      omega
  clear hA
  match l, l1, l2, l3, l4, l5, hp1, key with
  | [a], l1, l2, l3, l4, l5, hp1, key =>
    rw [List.mem_singleton] at hp1
    subst hp1
    exact key [] (by simpa using l2) (fun q hq => by cases hq) (by simp) (by simp) (by simp)
  | [a, b], l1, l2, l3, l4, l5, hp1, key =>
    rcases List.mem_cons.mp hp1 with e | e
    · subst e
      exact key [b] (by simpa using l2) (fun q hq => (l1 q (by simp at hq; simp [hq])).1) (by simp) (by simp) (by simp)
    · rw [List.mem_singleton] at e
      subst e
      exact key [a] (by simpa using l2) (fun q hq => (l1 q (by simp at hq; simp [hq])).1) (by simp; omega) (by simp; omega) (by simp; omega)
  | [a, b, c], l1, l2, l3, l4, l5, hp1, key =>
    rcases List.mem_cons.mp hp1 with e | e
    · subst e
      exact key [b, c] (by simpa using l2) (fun q hq => (l1 q (List.mem_cons_of_mem _ hq)).1) (by simp) (by simp) (by simp)
    · rcases List.mem_cons.mp e with e | e
      · subst e
        exact key [a, c] (by simpa using l2) (fun q hq => (l1 q (by rcases List.mem_cons.mp hq with e | e; exact e ▸ List.mem_cons_self ..; exact List.mem_cons_of_mem _ (List.mem_cons_of_mem _ e))).1) (by simp; omega) (by simp; omega) (by simp; omega)
      · rw [List.mem_singleton] at e
        subst e
        exact key [a, b] (by simpa using l2) (fun q hq => (l1 q (by rcases List.mem_cons.mp hq with e | e; exact e ▸ List.mem_cons_self ..; exact List.mem_cons_of_mem _ (List.mem_singleton.mp e ▸ List.mem_cons_self ..))).1) (by simp; omega) (by simp; omega) (by simp; omega)
  | [], _, _, _, _, _, hp1, _ => cases hp1
  | _ :: _ :: _ :: _ :: _, _, l2, _, _, _, _, _ =>
    simp only [List.length_cons] at l2
    omega
end PmNr
theorem top_of {d : Nat} {a : Ty} (o : ok d a = true) (h : hd a = 0) : a = tTop := by
  rcases ok_cases o with e | ⟨j, hj, rfl⟩ | ⟨x, y, rfl, _, _⟩ | ⟨x, y, rfl, _, _⟩ | ⟨m, x, y, z, hm, rfl, _, _, _⟩
  · exact e
  · rw [hd_var] at h; omega
  · rw [hd_fun] at h; omega
  · rw [hd_all] at h; omega
  · rw [hd_rec] at h; omega
theorem k2n_is {d : Nat} {t : Ty} (o : ok d t = true) (h : k2n t = true) : ∃ a c, t = tAll a c ∧ ok d a = true ∧ ok (d + 1) c = true ∧ hd a ≠ 0 ∧ hd a < 16 := by
  unfold k2n at h
  rw [Bool.and_eq_true, decide_eq_true_iff, decide_eq_true_iff] at h
  rcases kdt_cases o with q | q | q | q | q
  · omega
  · omega
  · omega
  · obtain ⟨-, a, c, rfl, h0, oa, oc⟩ := q
    exact ⟨a, c, rfl, oa, oc, h0, h.2⟩
  · omega
section PmNs1
variable {d : Nat} {a b c e t : Ty}
theorem yx1 (o : ok d t = true) (hk : tch t ≤ 40) : ∃ p ∈ frg xr1 (tch t), XFm 0 (fun _ => 1 + 1) 3 1 d t p.1 p.2 := xr_form (t0 := 0) (n1 := fun _ => 1 + 1) (s2 := 3) (hv := 1) xr1_ok (tbs1 true).2.2.2.1 (tbs1 true).2.2.2.2.1 _ t d (Nat.le_refl _) o hk
theorem ysc1 (oa : ok d a = true) (oc : ok (d + 1) c = true) (hk : tch (tAll a c) ≤ 40) : ∃ p ∈ frg ySC1 (tch (tAll a c)), XFm 0 (fun _ => 1 + 1) 3 1 d (tAll a c) p.1 p.2 := xhd_all ySCa1 oa oc hk (yx1 oa (by rw [tch_all] at hk; omega)) (yx1 oc (by rw [tch_all] at hk; omega))
theorem ynl1 (o : ok d t = true) (h : hd t ≠ 0 ∧ hd t < 16) (hk : tch t ≤ 40) : ∃ p ∈ frg yNL1 (tch t), XFm 0 (fun _ => 1 + 1) 3 1 d t p.1 p.2 := by
  rcases kdt_cases o with q | q | q | q | q
  · obtain ⟨-, rfl | ⟨k, hk', rfl⟩⟩ := q
    · exact absurd rfl h.1
    · rw [hd_var] at h; omega
  · exact xin_get yNLb1 hk (xk_fun (t0 := 0) (n1 := fun _ => 1 + 1) (s2 := 3) (hv := 1) xr1_ok (tbs1 true).2.2.2.1 (tbs1 true).2.2.2.2.1 xkf1_ok o hk q.1)
  · obtain ⟨-, c, rfl, oc⟩ := q
    exact xin_get yNLc1 hk (ysc1 rfl oc hk)
  · obtain ⟨-, a, c, rfl, h0, oa, oc⟩ := q
    exact xin_get yNLc1 hk (ysc1 oa oc hk)
  · exact xin_get yNLa1 hk (xk_rec (t0 := 0) (n1 := fun _ => 1 + 1) (s2 := 3) (hv := 1) xr1_ok (tbs1 true).2.2.2.1 (tbs1 true).2.2.2.2.1 xkr1_ok xkr1_2 o hk q.1)
theorem yk21 (o : ok d t = true) (h : k2n t = true) (hk : tch t ≤ 40) : ∃ p ∈ frg yK21 (tch t), XFm 0 (fun _ => 1 + 1) 3 1 d t p.1 p.2 := by
  obtain ⟨a, c, rfl, oa, oc, h0, h1⟩ := k2n_is o h
  exact xhd_all yK2a1 oa oc hk (ynl1 oa ⟨h0, h1⟩ (by rw [tch_all] at hk; omega)) (yx1 oc (by rw [tch_all] at hk; omega))
theorem ykv1 (o : ok d t = true) (h : 16 ≤ hd t) : ∃ p ∈ frg yKV1 (tch t), XFm 0 (fun _ => 1 + 1) 3 1 d t p.1 p.2 := by
  obtain ⟨j, hj, rfl⟩ := hd_is_var o h
  have e : tch (tVar j) = 1 := by rw [tch_var]
  obtain ⟨p, hp, g1, g2⟩ := dom_ex yKVa1
  rw [e]
  exact ⟨p, hp, (XFm_var j).mono g1 g2⟩
theorem yks1 (o : ok d t = true) (h : k2n t = true) (h2 : hd (k2 t) = 2 ∨ 16 ≤ hd (k2 t) ∨ hd (k2 t) = 0) (hk : tch t ≤ 40) : ∃ p ∈ frg yKS1 (tch t), XFm 0 (fun _ => 1 + 1) 3 1 d t p.1 p.2 := by
  obtain ⟨a, c, rfl, oa, oc, h0, h1⟩ := k2n_is o h
  have ek : k2 (tAll a c) = c := rfl
  rw [ek] at h2
  have na := ynl1 oa ⟨h0, h1⟩ (by rw [tch_all] at hk; omega)
  rcases h2 with h2 | h2 | h2
  · obtain ⟨x, y, rfl, ox, oy⟩ := hd_is_all oc h2
    exact xhd_all yKSa1 oa oc hk na (ysc1 ox oy (by rw [tch_all] at hk; omega))
  · exact xhd_all yKSb1 oa oc hk na (ykv1 oc h2)
  · have ec := top_of oc h2
    subst ec
    obtain ⟨p, hp, g1, g2⟩ := dom_ex yKTa1
    exact xhd_all yKSc1 oa oc hk na ⟨p, by rw [tch_top]; exact hp, XFm_top.mono g1 (Nat.le_trans (by decide) g2)⟩
theorem xlt_of1 {Ff Gf FK : FrT} {fn s2 hv r1 r2 r3 : Nat} (h : xfc xr1 Ff Gf FK fn s2 hv r1 r2 r3 = true) : xlt FK Ff s2 hv = true := by
  unfold xfc at h
  rw [Bool.and_eq_true] at h
  exact h.1
theorem yp21 (o : ok d t = true) (hk : tch t ≤ 40) (h : php rho2 t = true) : ∃ p ∈ frg yf21 (tch t), XFm 0 (fun _ => 1 + 1) 3 1 d t p.1 p.2 := by
  refine xp_form (t0 := 0) (n1 := fun _ => 1 + 1) (s2 := 3) (hv := 1) xr1_ok yf2a1 (tbs1 true).2.2.2.1 (tbs1 true).2.2.2.2.1 (fun a c d oa oc hk hr => ?_) _ t d (Nat.le_refl _) o hk h
  unfold rho2 at hr
  rw [Bool.and_eq_true, decide_eq_true_iff] at hr
  have ea := top_of oa hr.1
  subst ea
  exact xl_top (xlt_of1 yf2a1) (by decide) oc hk (yk21 oc hr.2 (by rw [tch_all] at hk; omega))
theorem yps1 (o : ok d t = true) (hk : tch t ≤ 40) (h : php rhos t = true) : ∃ p ∈ frg yfs1 (tch t), XFm 0 (fun _ => 1 + 1) 3 1 d t p.1 p.2 := by
  refine xp_form (t0 := 0) (n1 := fun _ => 1 + 1) (s2 := 3) (hv := 1) xr1_ok yfsa1 (tbs1 true).2.2.2.1 (tbs1 true).2.2.2.2.1 (fun a c d oa oc hk hr => ?_) _ t d (Nat.le_refl _) o hk h
  unfold rhos at hr
  rw [Bool.and_eq_true, Bool.and_eq_true, Bool.or_eq_true, Bool.or_eq_true, decide_eq_true_iff, decide_eq_true_iff, decide_eq_true_iff, decide_eq_true_iff] at hr
  have ea := top_of oa hr.1
  subst ea
  exact xl_top (xlt_of1 yfsa1) (by decide) oc hk (yks1 oc hr.2.1 hr.2.2 (by rw [tch_all] at hk; omega))
theorem ypv1 (o : ok d t = true) (hk : tch t ≤ 40) (h : php rhov t = true) : ∃ p ∈ frg yfv1 (tch t), XFm 0 (fun _ => 1 + 1) 3 1 d t p.1 p.2 := by
  refine xp_form (t0 := 0) (n1 := fun _ => 1 + 1) (s2 := 3) (hv := 1) xr1_ok yfva1 (tbs1 true).2.2.2.1 (tbs1 true).2.2.2.2.1 (fun a c d oa oc hk hr => ?_) _ t d (Nat.le_refl _) o hk h
  unfold rhov at hr
  rw [Bool.and_eq_true, decide_eq_true_iff, decide_eq_true_iff] at hr
  have ea := top_of oa hr.1
  subst ea
  exact xl_top (xlt_of1 yfva1) (by decide) oc hk (ykv1 oc hr.2)
theorem ypw1 (o : ok d t = true) (hk : tch t ≤ 40) (h : php rhow t = true) : ∃ p ∈ frg yfw1 (tch t), XFm 0 (fun _ => 1 + 1) 3 1 d t p.1 p.2 := by
  refine xp_form (t0 := 0) (n1 := fun _ => 1 + 1) (s2 := 3) (hv := 1) xr1_ok yfwa1 (tbs1 true).2.2.2.1 (tbs1 true).2.2.2.2.1 (fun a c d oa oc hk hr => ?_) _ t d (Nat.le_refl _) o hk h
  unfold rhow at hr
  rw [Bool.and_eq_true] at hr
  exact xhd_all yfwb1 oa oc hk (yk21 oa hr.1 (by rw [tch_all] at hk; omega)) (ypv1 oc (by rw [tch_all] at hk; omega) hr.2)
theorem yC_f1 (ob : ok d b = true) (oe : ok (d + 1) e = true) (hb : hd b ≠ 0 ∧ hd b < 16) (hk : tch (tAll b e) ≤ 40) (h : bdC b e = true) : ∃ v ∈ frg yC1 (tch (tAll b e)), XFm 0 (fun _ => 1 + 1) 3 1 d (tAll b e) v.1 v.2 := by
  have hk' := hk
  rw [tch_all] at hk'
  have nb := ynl1 ob hb (by omega)
  unfold bdC at h
  rw [Bool.or_eq_true, Bool.or_eq_true, Bool.and_eq_true, Bool.and_eq_true, Bool.or_eq_true, decide_eq_true_iff, decide_eq_true_iff, decide_eq_true_iff] at h
  rcases h with ⟨h1 | h1, h2⟩ | ⟨h1, h2⟩ | h
  · rcases kdt_cases oe with q | q | q | q | q
    · omega
    · obtain ⟨-, x, y, rfl, ox, oy⟩ := q
      have hke : tch (tFun x y) ≤ 40 := by omega
      have hke' := hke
      rw [tch_fun] at hke'
      rw [php_fun, Bool.or_eq_true] at h2
      refine xhd_all yCa1 ob oe hk nb (xl_fun yhfa1 (n1 := fun _ => 1 + 1) (tbs1 true).2.2.2.1 ox oy hke ?_)
      rcases h2 with h2 | h2
      · exact Or.inl ⟨yp21 ox (by omega) h2, yx1 oy (by omega)⟩
      · exact Or.inr ⟨yp21 oy (by omega) h2, yx1 ox (by omega)⟩
    · omega
    · omega
    · omega
  · rcases kdt_cases oe with q | q | q | q | q
    · omega
    · omega
    · omega
    · omega
    · obtain ⟨-, m, x, y, z, hm, rfl, o0, o1, o2⟩ := q
      refine xhd_all yCb1 ob oe hk nb (xl_rep yhra1 (fun i j i1 j1 hij => (xfc_p yf2a1 i1 j1 hij).1) (tbs1 true).2.2.2.2.1 hm o0 o1 o2 (by omega) (fun t o hk => yx1 o hk) (ρ := rho2) (fun l a1 a2 a3 a4 => ?_))
      rw [h2, List.any_eq_true] at a3
      obtain ⟨p, hp, hp2⟩ := a3
      exact ⟨p, hp, yp21 (a1 p hp) (a4 p hp) hp2⟩
  · obtain ⟨x, y, rfl, ox, oy⟩ := hd_is_all oe h1
    have hke : tch (tAll x y) ≤ 40 := by omega
    have hke' := hke
    rw [tch_all] at hke'
    rw [php_all, Bool.or_eq_true, Bool.or_eq_true] at h2
    refine xhd_all yCc1 ob oe hk nb ?_
    rcases h2 with h2 | h2 | h2
    · unfold rhos at h2
      rw [Bool.and_eq_true, Bool.and_eq_true, Bool.or_eq_true, Bool.or_eq_true, decide_eq_true_iff, decide_eq_true_iff, decide_eq_true_iff, decide_eq_true_iff] at h2
      have ea := top_of ox h2.1
      subst ea
      exact xl_top yhsc1 (by decide) oy hke (yks1 oy h2.2.1 h2.2.2 (by omega))
    · exact xhd_all yhsa1 ox oy hke (yps1 ox (by omega) h2) (yx1 oy (by omega))
    · exact xhd_all yhsb1 ox oy hke (yx1 ox (by omega)) (yps1 oy (by omega) h2)
  · exact xhd_all yCd1 ob oe hk nb (ypw1 oe (by omega) h)
end PmNs1
section PmNsq
variable {d : Nat} {a b c e t : Ty}
theorem yxq (o : ok d t = true) (hk : tch t ≤ 40) : ∃ p ∈ frg xrq (tch t), XFm 1 ngc 1 0 d t p.1 p.2 := xr_form (t0 := 1) (n1 := ngc) (s2 := 1) (hv := 0) xrq_ok tbsq.2.2.2.1 tbsq.2.2.2.2.1 _ t d (Nat.le_refl _) o hk
theorem yscq (oa : ok d a = true) (oc : ok (d + 1) c = true) (hk : tch (tAll a c) ≤ 40) : ∃ p ∈ frg ySCq (tch (tAll a c)), XFm 1 ngc 1 0 d (tAll a c) p.1 p.2 := xhd_all ySCaq oa oc hk (yxq oa (by rw [tch_all] at hk; omega)) (yxq oc (by rw [tch_all] at hk; omega))
theorem ynlq (o : ok d t = true) (h : hd t ≠ 0 ∧ hd t < 16) (hk : tch t ≤ 40) : ∃ p ∈ frg yNLq (tch t), XFm 1 ngc 1 0 d t p.1 p.2 := by
  rcases kdt_cases o with q | q | q | q | q
  · obtain ⟨-, rfl | ⟨k, hk', rfl⟩⟩ := q
    · exact absurd rfl h.1
    · rw [hd_var] at h; omega
  · exact xin_get yNLbq hk (xk_fun (t0 := 1) (n1 := ngc) (s2 := 1) (hv := 0) xrq_ok tbsq.2.2.2.1 tbsq.2.2.2.2.1 xkfq_ok o hk q.1)
  · obtain ⟨-, c, rfl, oc⟩ := q
    exact xin_get yNLcq hk (yscq rfl oc hk)
  · obtain ⟨-, a, c, rfl, h0, oa, oc⟩ := q
    exact xin_get yNLcq hk (yscq oa oc hk)
  · exact xin_get yNLaq hk (xk_rec (t0 := 1) (n1 := ngc) (s2 := 1) (hv := 0) xrq_ok tbsq.2.2.2.1 tbsq.2.2.2.2.1 xkrq_ok xkrq_2 o hk q.1)
theorem yk2q (o : ok d t = true) (h : k2n t = true) (hk : tch t ≤ 40) : ∃ p ∈ frg yK2q (tch t), XFm 1 ngc 1 0 d t p.1 p.2 := by
  obtain ⟨a, c, rfl, oa, oc, h0, h1⟩ := k2n_is o h
  exact xhd_all yK2aq oa oc hk (ynlq oa ⟨h0, h1⟩ (by rw [tch_all] at hk; omega)) (yxq oc (by rw [tch_all] at hk; omega))
theorem ykvq (o : ok d t = true) (h : 16 ≤ hd t) : ∃ p ∈ frg yKVq (tch t), XFm 1 ngc 1 0 d t p.1 p.2 := by
  obtain ⟨j, hj, rfl⟩ := hd_is_var o h
  have e : tch (tVar j) = 1 := by rw [tch_var]
  obtain ⟨p, hp, g1, g2⟩ := dom_ex yKVaq
  rw [e]
  exact ⟨p, hp, (XFm_var j).mono g1 g2⟩
theorem yksq (o : ok d t = true) (h : k2n t = true) (h2 : hd (k2 t) = 2 ∨ 16 ≤ hd (k2 t) ∨ hd (k2 t) = 0) (hk : tch t ≤ 40) : ∃ p ∈ frg yKSq (tch t), XFm 1 ngc 1 0 d t p.1 p.2 := by
  obtain ⟨a, c, rfl, oa, oc, h0, h1⟩ := k2n_is o h
  have ek : k2 (tAll a c) = c := rfl
  rw [ek] at h2
  have na := ynlq oa ⟨h0, h1⟩ (by rw [tch_all] at hk; omega)
  rcases h2 with h2 | h2 | h2
  · obtain ⟨x, y, rfl, ox, oy⟩ := hd_is_all oc h2
    exact xhd_all yKSaq oa oc hk na (yscq ox oy (by rw [tch_all] at hk; omega))
  · exact xhd_all yKSbq oa oc hk na (ykvq oc h2)
  · have ec := top_of oc h2
    subst ec
    obtain ⟨p, hp, g1, g2⟩ := dom_ex yKTaq
    exact xhd_all yKScq oa oc hk na ⟨p, by rw [tch_top]; exact hp, XFm_top.mono g1 (Nat.le_trans (by decide) g2)⟩
theorem xlt_ofq {Ff Gf FK : FrT} {fn s2 hv r1 r2 r3 : Nat} (h : xfc xrq Ff Gf FK fn s2 hv r1 r2 r3 = true) : xlt FK Ff s2 hv = true := by
  unfold xfc at h
  rw [Bool.and_eq_true] at h
  exact h.1
theorem yp2q (o : ok d t = true) (hk : tch t ≤ 40) (h : php rho2 t = true) : ∃ p ∈ frg yf2q (tch t), XFm 1 ngc 1 0 d t p.1 p.2 := by
  refine xp_form (t0 := 1) (n1 := ngc) (s2 := 1) (hv := 0) xrq_ok yf2aq tbsq.2.2.2.1 tbsq.2.2.2.2.1 (fun a c d oa oc hk hr => ?_) _ t d (Nat.le_refl _) o hk h
  unfold rho2 at hr
  rw [Bool.and_eq_true, decide_eq_true_iff] at hr
  have ea := top_of oa hr.1
  subst ea
  exact xl_top (xlt_ofq yf2aq) (by decide) oc hk (yk2q oc hr.2 (by rw [tch_all] at hk; omega))
theorem ypsq (o : ok d t = true) (hk : tch t ≤ 40) (h : php rhos t = true) : ∃ p ∈ frg yfsq (tch t), XFm 1 ngc 1 0 d t p.1 p.2 := by
  refine xp_form (t0 := 1) (n1 := ngc) (s2 := 1) (hv := 0) xrq_ok yfsaq tbsq.2.2.2.1 tbsq.2.2.2.2.1 (fun a c d oa oc hk hr => ?_) _ t d (Nat.le_refl _) o hk h
  unfold rhos at hr
  rw [Bool.and_eq_true, Bool.and_eq_true, Bool.or_eq_true, Bool.or_eq_true, decide_eq_true_iff, decide_eq_true_iff, decide_eq_true_iff, decide_eq_true_iff] at hr
  have ea := top_of oa hr.1
  subst ea
  exact xl_top (xlt_ofq yfsaq) (by decide) oc hk (yksq oc hr.2.1 hr.2.2 (by rw [tch_all] at hk; omega))
theorem ypvq (o : ok d t = true) (hk : tch t ≤ 40) (h : php rhov t = true) : ∃ p ∈ frg yfvq (tch t), XFm 1 ngc 1 0 d t p.1 p.2 := by
  refine xp_form (t0 := 1) (n1 := ngc) (s2 := 1) (hv := 0) xrq_ok yfvaq tbsq.2.2.2.1 tbsq.2.2.2.2.1 (fun a c d oa oc hk hr => ?_) _ t d (Nat.le_refl _) o hk h
  unfold rhov at hr
  rw [Bool.and_eq_true, decide_eq_true_iff, decide_eq_true_iff] at hr
  have ea := top_of oa hr.1
  subst ea
  exact xl_top (xlt_ofq yfvaq) (by decide) oc hk (ykvq oc hr.2)
theorem ypwq (o : ok d t = true) (hk : tch t ≤ 40) (h : php rhow t = true) : ∃ p ∈ frg yfwq (tch t), XFm 1 ngc 1 0 d t p.1 p.2 := by
  refine xp_form (t0 := 1) (n1 := ngc) (s2 := 1) (hv := 0) xrq_ok yfwaq tbsq.2.2.2.1 tbsq.2.2.2.2.1 (fun a c d oa oc hk hr => ?_) _ t d (Nat.le_refl _) o hk h
  unfold rhow at hr
  rw [Bool.and_eq_true] at hr
  exact xhd_all yfwbq oa oc hk (yk2q oa hr.1 (by rw [tch_all] at hk; omega)) (ypvq oc (by rw [tch_all] at hk; omega) hr.2)
theorem yC_fq (ob : ok d b = true) (oe : ok (d + 1) e = true) (hb : hd b ≠ 0 ∧ hd b < 16) (hk : tch (tAll b e) ≤ 40) (h : bdC b e = true) : ∃ v ∈ frg yCq (tch (tAll b e)), XFm 1 ngc 1 0 d (tAll b e) v.1 v.2 := by
  have hk' := hk
  rw [tch_all] at hk'
  have nb := ynlq ob hb (by omega)
  unfold bdC at h
  rw [Bool.or_eq_true, Bool.or_eq_true, Bool.and_eq_true, Bool.and_eq_true, Bool.or_eq_true, decide_eq_true_iff, decide_eq_true_iff, decide_eq_true_iff] at h
  rcases h with ⟨h1 | h1, h2⟩ | ⟨h1, h2⟩ | h
  · rcases kdt_cases oe with q | q | q | q | q
    · omega
    · obtain ⟨-, x, y, rfl, ox, oy⟩ := q
      have hke : tch (tFun x y) ≤ 40 := by omega
      have hke' := hke
      rw [tch_fun] at hke'
      rw [php_fun, Bool.or_eq_true] at h2
      refine xhd_all yCaq ob oe hk nb (xl_fun yhfaq (n1 := ngc) tbsq.2.2.2.1 ox oy hke ?_)
      rcases h2 with h2 | h2
      · exact Or.inl ⟨yp2q ox (by omega) h2, yxq oy (by omega)⟩
      · exact Or.inr ⟨yp2q oy (by omega) h2, yxq ox (by omega)⟩
    · omega
    · omega
    · omega
  · rcases kdt_cases oe with q | q | q | q | q
    · omega
    · omega
    · omega
    · omega
    · obtain ⟨-, m, x, y, z, hm, rfl, o0, o1, o2⟩ := q
      refine xhd_all yCbq ob oe hk nb (xl_rep yhraq (fun i j i1 j1 hij => (xfc_p yf2aq i1 j1 hij).1) tbsq.2.2.2.2.1 hm o0 o1 o2 (by omega) (fun t o hk => yxq o hk) (ρ := rho2) (fun l a1 a2 a3 a4 => ?_))
      rw [h2, List.any_eq_true] at a3
      obtain ⟨p, hp, hp2⟩ := a3
      exact ⟨p, hp, yp2q (a1 p hp) (a4 p hp) hp2⟩
  · obtain ⟨x, y, rfl, ox, oy⟩ := hd_is_all oe h1
    have hke : tch (tAll x y) ≤ 40 := by omega
    have hke' := hke
    rw [tch_all] at hke'
    rw [php_all, Bool.or_eq_true, Bool.or_eq_true] at h2
    refine xhd_all yCcq ob oe hk nb ?_
    rcases h2 with h2 | h2 | h2
    · unfold rhos at h2
      rw [Bool.and_eq_true, Bool.and_eq_true, Bool.or_eq_true, Bool.or_eq_true, decide_eq_true_iff, decide_eq_true_iff, decide_eq_true_iff, decide_eq_true_iff] at h2
      have ea := top_of ox h2.1
      subst ea
      exact xl_top yhscq (by decide) oy hke (yksq oy h2.2.1 h2.2.2 (by omega))
    · exact xhd_all yhsaq ox oy hke (ypsq ox (by omega) h2) (yxq oy (by omega))
    · exact xhd_all yhsbq ox oy hke (yxq ox (by omega)) (ypsq oy (by omega) h2)
  · exact xhd_all yCdq ob oe hk nb (ypwq oe (by omega) h)
end PmNsq
