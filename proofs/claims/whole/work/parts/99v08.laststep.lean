/-! THE LAST STEP OF A TYPE, by tables of its own. -/
/-- a function -/
def xlf (A F H : FrT) (fn : Nat) : Bool := (List.range 36).all (fun i => (List.range (36 - i)).all (fun j => (frg A (i + 1)).all (fun p => (frg F (j + 1)).all (fun q => dom (p.1 + q.1) (fn + p.2 + q.2) (frg H (i + j + 5))))))
/-- a record -/
def xlr (A G F H : FrT) (r1 r2 r3 : Nat) : Bool := (List.range 37).all (fun i => (frg A (i + 1)).all (fun p => dom p.1 (r1 + p.2) (frg H (i + 4)))) && ((List.range 35).all (fun i => (frg G (i + 1)).all (fun p => dom p.1 (r2 + p.2) (frg H (i + 6)))) && (List.range 32).all (fun i => (List.range (32 - i)).all (fun j => (frg G (i + 1)).all (fun p => (frg F (j + 1)).all (fun q => dom (p.1 + q.1) (r3 + (p.2 + q.2)) (frg H (i + j + 9)))))))
/-- a scheme with bound Top -/
def xlt (A H : FrT) (s2 hv : Nat) : Bool := (List.range 35).all (fun j => (frg A (j + 1)).all (fun q => hsp s2 hv (0, 1) q (frg H (j + 6))))
section PmVn
variable {A F G H : FrT} {t0 fn s2 hv r0 r1 r2 r3 d : Nat} {n1 : Nat → Nat}
theorem xl_fun (h : xlf A F H fn = true) (hf1 : n1 1 ≤ fn) {a b : Ty} (oa : ok d a = true) (ob : ok d b = true) (hk : tch (tFun a b) ≤ 40) (hA : (∃ p ∈ frg A (tch a), XFm t0 n1 s2 hv d a p.1 p.2) ∧ (∃ q ∈ frg F (tch b), XFm t0 n1 s2 hv d b q.1 q.2) ∨ (∃ p ∈ frg A (tch b), XFm t0 n1 s2 hv d b p.1 p.2) ∧ (∃ q ∈ frg F (tch a), XFm t0 n1 s2 hv d a q.1 q.2)) : ∃ v ∈ frg H (tch (tFun a b)), XFm t0 n1 s2 hv d (tFun a b) v.1 v.2 := by
  rw [tch_fun] at hk ⊢
  have pa := tch_pos oa
  have pb := tch_pos ob
  have key : ∀ {i j : Nat} {p q : Nat × Nat}, 1 ≤ i → 1 ≤ j → i + j + 3 ≤ 40 → p ∈ frg A i → q ∈ frg F j → ∃ v ∈ frg H (i + j + 3), p.1 + q.1 ≤ v.1 ∧ fn + p.2 + q.2 ≤ v.2 := by
    intro i j p q i1 j1 hij hp hq
    unfold xlf at h
    have q1 := rng_all (rng_all h (i := i - 1) (by omega)) (i := j - 1) (by omega)
    rw [show i - 1 + 1 = i by omega, show j - 1 + 1 = j by omega, show i - 1 + (j - 1) + 5 = i + j + 3 by omega] at q1
    exact dom_ex (List.all_eq_true.mp (List.all_eq_true.mp q1 p hp) q hq)
  rcases hA with ⟨⟨p, hp, fp⟩, q, hq, fq⟩ | ⟨⟨p, hp, fp⟩, q, hq, fq⟩
  · obtain ⟨v, hv', h1, h2⟩ := key pa pb (by omega) hp hq
    rw [show 3 + (tch a + tch b) = tch a + tch b + 3 by omega]
    exact ⟨v, hv', (XFm_fun fp fq).mono h1 (by omega)⟩
  · obtain ⟨v, hv', h1, h2⟩ := key pb pa (by omega) hp hq
    rw [show 3 + (tch a + tch b) = tch b + tch a + 3 by omega]
    exact ⟨v, hv', (XFm_fun fq fp).mono (by omega) (by omega)⟩
theorem xl_top (h : xlt A H s2 hv = true) (ht0 : t0 ≤ 1) {b : Ty} (ob : ok (d + 1) b = true) (hk : tch (tAll tTop b) ≤ 40) (hA : ∃ p ∈ frg A (tch b), XFm t0 n1 s2 hv (d + 1) b p.1 p.2) : ∃ v ∈ frg H (tch (tAll tTop b)), XFm t0 n1 s2 hv d (tAll tTop b) v.1 v.2 := by
  rw [tch_all, tch_top] at hk ⊢
  have pb := tch_pos ob
  obtain ⟨q, hq, fq⟩ := hA
  unfold xlt at h
  have q1 := rng_all h (i := tch b - 1) (by omega)
  rw [show tch b - 1 + 1 = tch b by omega, show tch b - 1 + 6 = 4 + (1 + tch b) by omega] at q1
  obtain ⟨u, hu, g⟩ := XFm_all (f := (XFm_top (t0 := t0) (n1 := n1) (s2 := s2) (hv := hv) (d := d)).mono (Nat.le_refl 0) ht0) fq
  obtain ⟨v, hv', g1, g2⟩ := hsp_dom (List.all_eq_true.mp q1 q hq) hu
  exact ⟨v, hv', g.mono g1 g2⟩
/-- a record, one field of which has a form of A -/
theorem xl_rec (h : xlr A G F H r1 r2 r3 = true) (hG : ∀ i j, 1 ≤ i → 1 ≤ j → i + j ≤ 40 → ∀ p ∈ frg A i, ∀ q ∈ frg F j, dom (p.1 + q.1) (p.2 + q.2) (frg G (i + j)) = true) (hr : ∀ m, m < 8 → n1 (8 + m) ≤ (if nlb m = 0 then r0 else if nlb m = 1 then r1 else if nlb m = 2 then r2 else r3)) {m : Nat} {x y z : Ty} (hm : m < 8) (o0 : okl d m 0 x) (o1 : okl d m 1 y) (o2 : okl d m 2 z) (hk : tch (tRec m x y z) ≤ 40) (all : ∀ (t : Ty), ok d t = true → tch t ≤ 40 → ∃ p ∈ frg F (tch t), XFm t0 n1 s2 hv d t p.1 p.2) {K : Nat → Bool} (hA : ∀ l : List Ty, (∀ q ∈ l, ok d q = true) → l.length = nlb m → l.any (phf K) = phf K (tRec m x y z) → (∀ q ∈ l, tch q ≤ 40) → ∃ p ∈ l, ∃ v ∈ frg A (tch p), XFm t0 n1 s2 hv d p v.1 v.2) : ∃ v ∈ frg H (tch (tRec m x y z)), XFm t0 n1 s2 hv d (tRec m x y z) v.1 v.2 := by
  obtain ⟨l, l1, l2, l3, l4, l5, l6⟩ := rec_list (K := K) (t0 := t0) (n1 := n1) (s2 := s2) (hv := hv) o0 o1 o2
  have hn := hr m hm
  have sums : ∀ {l : List Ty} {q : Ty}, q ∈ l → tch q ≤ (l.map tch).sum := by
    intro l q hq
    induction l with
    | nil => cases hq
    | cons a l ih =>
      rw [List.map_cons, List.sum_cons]
      rcases List.mem_cons.mp hq with e | e
      · rw [e]; omega
      · have := ih e; omega
  obtain ⟨p, hp1, v, hv', f1, f2⟩ := hA l (fun q hq => (l1 q hq).1) l2 l6 (fun q hq => by have := sums hq; omega)
  have m0 : m ≠ 0 := by
    intro e
    have e2 : nlb m = 0 := by rw [e]; decide
    rw [e2] at l2
    rw [List.eq_nil_of_length_eq_zero l2] at hp1
    cases hp1
  have rc : rch m = 1 + 2 * nlb m := by unfold rch; rw [if_neg m0]
  have op := l1 p hp1
  have pp := tch_pos op.1
  have hk' := hk
  rw [← l5] at hk'
  unfold xlr at h
  rw [Bool.and_eq_true, Bool.and_eq_true] at h
  obtain ⟨hx1, hx2, hx3⟩ := h
  have nb : nlb m ≤ 3 := by
    unfold nlb
    split <;> split <;> split <;> omega
  have fin : ∀ {l a : Nat} {t : Ty} {k : Nat}, XFm t0 n1 s2 hv d t l a → dom l a (frg H k) = true → ∃ p ∈ frg H k, XFm t0 n1 s2 hv d t p.1 p.2 := by
    intro l a t k g hd
    obtain ⟨p, hp, h1, h2⟩ := dom_ex hd
    exact ⟨p, hp, g.mono h1 h2⟩
  have key : ∀ (l' : List Ty), l'.length + 1 = nlb m → (∀ q ∈ l', ok d q = true) → tch p + (l'.map tch).sum = (l.map tch).sum → xt d p + (l'.map (xt d)).sum = (l.map (xt d)).sum → xa t0 n1 s2 hv d p + (l'.map (xa t0 n1 s2 hv d)).sum = (l.map (xa t0 n1 s2 hv d)).sum → ∃ v ∈ frg H (tch (tRec m x y z)), XFm t0 n1 s2 hv d (tRec m x y z) v.1 v.2 := by
    intro l' e1 e2 e3 e4 e5
    rw [rc] at l5 hk'
    match l', e1, e2, e3, e4, e5 with
    | [], e1, e2, e3, e4, e5 =>
      simp only [List.map_nil, List.sum_nil, List.length_nil] at e1 e3 e4 e5
      rw [if_neg (by omega), if_pos (by omega)] at hn
      rw [← l5, show 1 + 2 * nlb m + (l.map tch).sum = tch p + 3 by omega]
      have q1 := rng_all hx1 (i := tch p - 1) (by omega)
      rw [show tch p - 1 + 1 = tch p by omega, show tch p - 1 + 4 = tch p + 3 by omega] at q1
      exact fin (show XFm t0 n1 s2 hv d (tRec m x y z) v.1 (r1 + v.2) from ⟨by omega, by omega⟩) (List.all_eq_true.mp q1 v hv')
    | [q], e1, e2, e3, e4, e5 =>
      simp only [List.map_cons, List.map_nil, List.sum_cons, List.sum_nil, List.length_cons, List.length_nil] at e1 e3 e4 e5
      have oq := e2 q (by simp)
      have pq := tch_pos oq
      obtain ⟨w, hw, g1, g2⟩ := all q oq (by omega)
      obtain ⟨u, hu, k1, k2⟩ := dom_ex (hG _ _ pp pq (by omega) v hv' w hw)
      rw [if_neg (by omega), if_neg (by omega), if_pos (by omega)] at hn
      rw [← l5, show 1 + 2 * nlb m + (l.map tch).sum = tch p + tch q + 5 by omega]
      have q1 := rng_all hx2 (i := tch p + tch q - 1) (by omega)
      rw [show tch p + tch q - 1 + 1 = tch p + tch q by omega, show tch p + tch q - 1 + 6 = tch p + tch q + 5 by omega] at q1
      exact fin (show XFm t0 n1 s2 hv d (tRec m x y z) u.1 (r2 + u.2) from ⟨by omega, by omega⟩) (List.all_eq_true.mp q1 u hu)
    | [q, q'], e1, e2, e3, e4, e5 =>
      simp only [List.map_cons, List.map_nil, List.sum_cons, List.sum_nil, List.length_cons, List.length_nil] at e1 e3 e4 e5
      have oq := e2 q (by simp)
      have pq := tch_pos oq
      have oq' := e2 q' (by simp)
      have pq' := tch_pos oq'
      obtain ⟨w, hw, g1, g2⟩ := all q oq (by omega)
      obtain ⟨w', hw', g1', g2'⟩ := all q' oq' (by omega)
      obtain ⟨u, hu, k1, k2⟩ := dom_ex (hG _ _ pp pq (by omega) v hv' w hw)
      rw [if_neg (by omega), if_neg (by omega), if_neg (by omega)] at hn
      rw [← l5, show 1 + 2 * nlb m + (l.map tch).sum = (tch p + tch q) + tch q' + 7 by omega]
      have q1 := rng_all (rng_all hx3 (i := tch p + tch q - 1) (by omega)) (i := tch q' - 1) (by omega)
      rw [show tch p + tch q - 1 + 1 = tch p + tch q by omega, show tch q' - 1 + 1 = tch q' by omega, show tch p + tch q - 1 + (tch q' - 1) + 9 = tch p + tch q + tch q' + 7 by omega] at q1
      exact fin (show XFm t0 n1 s2 hv d (tRec m x y z) (u.1 + w'.1) (r3 + (u.2 + w'.2)) from ⟨by omega, by omega⟩) (List.all_eq_true.mp (List.all_eq_true.mp q1 u hu) w' hw')
    | _ :: _ :: _ :: _, e1, _, _, _, _ =>
      simp only [List.length_cons] at e1
      omega
  clear hA
  match l, l1, l2, l3, l4, l5, hp1, key with
  | [a], l1, l2, l3, l4, l5, hp1, key =>
    rw [List.mem_singleton] at hp1
    subst hp1
    exact key [] (by simpa using l2) (fun q hq => by cases hq) (by simp) (by simp) (by simp)
  | [a, b], l1, l2, l3, l4, l5, hp1, key =>
    rcases List.mem_cons.mp hp1 with e | e
    · subst e
      exact key [b] (by simpa using l2) (fun q hq => (l1 q (by simp at hq; simp [hq])).1) (by simp) (by simp) (by simp)
    · rw [List.mem_singleton] at e
      subst e
      exact key [a] (by simpa using l2) (fun q hq => (l1 q (by simp at hq; simp [hq])).1) (by simp; omega) (by simp; omega) (by simp; omega)
  | [a, b, c], l1, l2, l3, l4, l5, hp1, key =>
    rcases List.mem_cons.mp hp1 with e | e
    · subst e
      exact key [b, c] (by simpa using l2) (fun q hq => (l1 q (List.mem_cons_of_mem _ hq)).1) (by simp) (by simp) (by simp)
    · rcases List.mem_cons.mp e with e | e
      · subst e
        exact key [a, c] (by simpa using l2) (fun q hq => (l1 q (by rcases List.mem_cons.mp hq with e | e; exact e ▸ List.mem_cons_self ..; exact List.mem_cons_of_mem _ (List.mem_cons_of_mem _ e))).1) (by simp; omega) (by simp; omega) (by simp; omega)
      · rw [List.mem_singleton] at e
        subst e
        exact key [a, b] (by simpa using l2) (fun q hq => (l1 q (by rcases List.mem_cons.mp hq with e | e; exact e ▸ List.mem_cons_self ..; exact List.mem_cons_of_mem _ (List.mem_singleton.mp e ▸ List.mem_cons_self ..))).1) (by simp; omega) (by simp; omega) (by simp; omega)
  | [], _, _, _, _, _, hp1, _ => cases hp1
  | _ :: _ :: _ :: _ :: _, _, l2, _, _, _, _, _ =>
    simp only [List.length_cons] at l2
    omega
end PmVn
