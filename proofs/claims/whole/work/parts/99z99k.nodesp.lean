/-! FORMS BY NODES OF TYPES WITH CERTAIN SCHEMES INSIDE, any condition on bound and body; at most 14 nodes. -/
/-- one part of n nodes, or a row of parts -/
def nsop (A B U V X Y : FrT) (r1 r2 r3 n : Nat) : Bool :=
  (nsu (frg A n) (frg A (n + 1)) r1 && (nsu (frg U n) (frg A (n + 1)) r2 && nsu (frg X n) (frg A (n + 1)) r3)) &&
  (nsu (frg B n) (frg B (n + 1)) r1 && (nsu (frg V n) (frg B (n + 1)) r2 && nsu (frg Y n) (frg B (n + 1)) r3))
def nfcp (A B U V X Y : FrT) (t0 fn s2 hv r0 r1 r2 r3 : Nat) : Bool :=
  (dom 0 t0 (frg A 1) && (dom 1 0 (frg A 1) && dom 0 r0 (frg A 1))) &&
  ((List.range 13).all (fun n => nsop A B U V X Y r1 r2 r3 (n + 1)) &&
  (List.range 12).all (fun i => (List.range (12 - i)).all (fun j => nst A B U V X Y fn s2 hv (i + 1) (j + 1))))
section PmNk
variable {ρ : Ty → Ty → Bool} {A B U V X Y : FrT} {W : List (Nat × Nat)} {t0 fn s2 hv r0 r1 r2 r3 : Nat} {n1 : Nat → Nat}
theorem nfcp_o (h : nfcp A B U V X Y t0 fn s2 hv r0 r1 r2 r3 = true) {n : Nat} (k1 : 1 ≤ n) (k2 : n ≤ 13) : nsop A B U V X Y r1 r2 r3 n = true := by
  unfold nfcp at h
  rw [Bool.and_eq_true] at h
  have h2 := h.2
  rw [Bool.and_eq_true] at h2
  have q := rng_all h2.1 (i := n - 1) (by omega)
  rw [show n - 1 + 1 = n by omega] at q
  exact q
theorem nfcp_p (h : nfcp A B U V X Y t0 fn s2 hv r0 r1 r2 r3 = true) {i j : Nat} (i1 : 1 ≤ i) (j1 : 1 ≤ j) (k2 : i + j ≤ 13) : nst A B U V X Y fn s2 hv i j = true := by
  unfold nfcp at h
  rw [Bool.and_eq_true] at h
  have h2 := h.2
  rw [Bool.and_eq_true] at h2
  have q := rng_all (rng_all h2.2 (i := i - 1) (by omega)) (i := j - 1) (by omega)
  rw [show i - 1 + 1 = i by omega, show j - 1 + 1 = j by omega] at q
  exact q
/-- the fields of a record, with their nodes -/
theorem rec_nodep {d m : Nat} {x y z : Ty} (o0 : okl d m 0 x) (o1 : okl d m 1 y) (o2 : okl d m 2 z) : ∃ l : List Ty, (∀ q ∈ l, ok d q = true) ∧ l.length = nlb m ∧ (l.map (xt d)).sum = xt d (tRec m x y z) ∧ n1 (8 + m) + (l.map (xa t0 n1 s2 hv d)).sum = xa t0 n1 s2 hv d (tRec m x y z) ∧ (l.map (fun q => (flat q).length)).sum + 1 = (flat (tRec m x y z)).length ∧ l.any (php ρ) = php ρ (tRec m x y z) := by
  obtain ⟨a0, b0, c0, e0, f0, g0⟩ := fld_ip (ρ := ρ) (t0 := t0) (n1 := n1) (s2 := s2) (hv := hv) o0
  obtain ⟨a1, b1, c1, e1, f1, g1⟩ := fld_ip (ρ := ρ) (t0 := t0) (n1 := n1) (s2 := s2) (hv := hv) o1
  obtain ⟨a2, b2, c2, e2, f2, g2⟩ := fld_ip (ρ := ρ) (t0 := t0) (n1 := n1) (s2 := s2) (hv := hv) o2
  have fl : ∀ (i : Nat) (p : Ty), okl d m i p → ((fld m i p).map (fun q => (flat q).length)).sum = (flat p).length := by
    intro i p o
    unfold okl at o
    unfold fld
    by_cases hb : bit m i = true
    · rw [if_pos hb]; simp
    · rw [if_neg hb] at o
      rw [if_neg hb, o]; rfl
  refine ⟨fld m 0 x ++ (fld m 1 y ++ fld m 2 z), fun q hq => ?_, ?_, ?_, ?_, ?_, ?_⟩
  · rcases List.mem_append.mp hq with h | h
    · exact (a0 q h).1
    · rcases List.mem_append.mp h with h | h
      · exact (a1 q h).1
      · exact (a2 q h).1
  · rw [List.length_append, List.length_append, b0, b1, b2]
    unfold nlb
    omega
  · rw [List.map_append, List.map_append, List.sum_append, List.sum_append, c0, c1, c2, xt_rec]
  · rw [List.map_append, List.map_append, List.sum_append, List.sum_append, e0, e1, e2, xa_rec]
  · rw [List.map_append, List.map_append, List.sum_append, List.sum_append, fl 0 x o0, fl 1 y o1, fl 2 z o2, flat_rec, List.length_cons, List.length_append, List.length_append]
  · rw [List.any_append, List.any_append, g0, g1, g2, php_rec]
/-- what is asked of a type -/
def NFq (ρ : Ty → Ty → Bool) (A B : FrT) (t0 : Nat) (n1 : Nat → Nat) (s2 hv d : Nat) (t : Ty) : Prop := (∃ p ∈ frg A (flat t).length, XFm t0 n1 s2 hv d t p.1 p.2) ∧ (php ρ t = true → ∃ p ∈ frg B (flat t).length, XFm t0 n1 s2 hv d t p.1 p.2)
/-- two parts, three parts -/
theorem nq_two (hc : nfcp A B U V X Y t0 fn s2 hv r0 r1 r2 r3 = true) {d : Nat} {a b : Ty} (oa : ok d a = true) (ob : ok d b = true) (ia : NFq ρ A B t0 n1 s2 hv d a) (ib : NFq ρ A B t0 n1 s2 hv d b) (hk : (flat a).length + (flat b).length ≤ 13) : (∃ v ∈ frg U ((flat a).length + (flat b).length), xt d a + xt d b ≤ v.1 ∧ xa t0 n1 s2 hv d a + xa t0 n1 s2 hv d b ≤ v.2) ∧ (php ρ a = true ∨ php ρ b = true → ∃ v ∈ frg V ((flat a).length + (flat b).length), xt d a + xt d b ≤ v.1 ∧ xa t0 n1 s2 hv d a + xa t0 n1 s2 hv d b ≤ v.2) := by
  have st := nfcp_p hc (flat_pos oa) (flat_pos ob) hk
  unfold nst at st
  simp only [Bool.and_eq_true] at st
  obtain ⟨-, ⟨s1, s2', s3⟩, -⟩ := st
  have fin : ∀ {p q : Nat × Nat} {L : List (Nat × Nat)}, XFm t0 n1 s2 hv d a p.1 p.2 → XFm t0 n1 s2 hv d b q.1 q.2 → dom (p.1 + q.1) (0 + (p.2 + q.2)) L = true → ∃ v ∈ L, xt d a + xt d b ≤ v.1 ∧ xa t0 n1 s2 hv d a + xa t0 n1 s2 hv d b ≤ v.2 := by
    intro p q L fp fq hd
    obtain ⟨v, hv', h1, h2⟩ := dom_ex hd
    exact ⟨v, hv', by have := fp.1; have := fq.1; omega, by have := fp.2; have := fq.2; omega⟩
  obtain ⟨p, hp, fp⟩ := ia.1
  obtain ⟨q, hq, fq⟩ := ib.1
  refine ⟨fin fp fq (prn_get s1 hp hq), fun h => ?_⟩
  rcases h with h | h
  · obtain ⟨p', hp', fp'⟩ := ia.2 h
    exact fin fp' fq (prn_get s2' hp' hq)
  · obtain ⟨q', hq', fq'⟩ := ib.2 h
    exact fin fp fq' (prn_get s3 hp hq')
theorem nq_three (hc : nfcp A B U V X Y t0 fn s2 hv r0 r1 r2 r3 = true) {d : Nat} {a b c : Ty} (oa : ok d a = true) (ob : ok d b = true) (oc : ok d c = true) (ia : NFq ρ A B t0 n1 s2 hv d a) (ib : NFq ρ A B t0 n1 s2 hv d b) (ic : NFq ρ A B t0 n1 s2 hv d c) (hk : (flat a).length + ((flat b).length + (flat c).length) ≤ 13) : (∃ v ∈ frg X ((flat a).length + ((flat b).length + (flat c).length)), xt d a + (xt d b + xt d c) ≤ v.1 ∧ xa t0 n1 s2 hv d a + (xa t0 n1 s2 hv d b + xa t0 n1 s2 hv d c) ≤ v.2) ∧ (php ρ a = true ∨ php ρ b = true ∨ php ρ c = true → ∃ v ∈ frg Y ((flat a).length + ((flat b).length + (flat c).length)), xt d a + (xt d b + xt d c) ≤ v.1 ∧ xa t0 n1 s2 hv d a + (xa t0 n1 s2 hv d b + xa t0 n1 s2 hv d c) ≤ v.2) := by
  have pa := flat_pos oa
  have pb := flat_pos ob
  have pc := flat_pos oc
  have st := nfcp_p hc pa (show 1 ≤ (flat b).length + (flat c).length by omega) hk
  unfold nst at st
  simp only [Bool.and_eq_true] at st
  obtain ⟨-, -, s1, s2', s3⟩ := st
  obtain ⟨w1, w2⟩ := nq_two hc ob oc ib ic (by omega)
  have fin : ∀ {p q : Nat × Nat} {L : List (Nat × Nat)}, XFm t0 n1 s2 hv d a p.1 p.2 → xt d b + xt d c ≤ q.1 ∧ xa t0 n1 s2 hv d b + xa t0 n1 s2 hv d c ≤ q.2 → dom (p.1 + q.1) (0 + (p.2 + q.2)) L = true → ∃ v ∈ L, xt d a + (xt d b + xt d c) ≤ v.1 ∧ xa t0 n1 s2 hv d a + (xa t0 n1 s2 hv d b + xa t0 n1 s2 hv d c) ≤ v.2 := by
    intro p q L fp fq hd
    obtain ⟨v, hv', h1, h2⟩ := dom_ex hd
    exact ⟨v, hv', by have := fp.1; have := fq.1; omega, by have := fp.2; have := fq.2; omega⟩
  obtain ⟨p, hp, fp⟩ := ia.1
  obtain ⟨q, hq, fq⟩ := w1
  refine ⟨fin fp fq (prn_get s1 hp hq), fun h => ?_⟩
  rcases h with h | h
  · obtain ⟨p', hp', fp'⟩ := ia.2 h
    exact fin fp' fq (prn_get s2' hp' hq)
  · obtain ⟨q', hq', fq'⟩ := w2 h
    exact fin fp fq' (prn_get s3 hp hq')
/-- a record, by what its fields are -/
theorem nq_rec (hc : nfcp A B U V X Y t0 fn s2 hv r0 r1 r2 r3 = true) (hr : ∀ m, m < 8 → n1 (8 + m) ≤ (if nlb m = 0 then r0 else if nlb m = 1 then r1 else if nlb m = 2 then r2 else r3)) {d m : Nat} {x y z : Ty} (hm : m < 8) (o0 : okl d m 0 x) (o1 : okl d m 1 y) (o2 : okl d m 2 z) (hk : (flat (tRec m x y z)).length ≤ 14) (ih : ∀ q, ok d q = true → (flat q).length < (flat (tRec m x y z)).length → NFq ρ A B t0 n1 s2 hv d q) : (nlb m = 0 ∧ XFm t0 n1 s2 hv d (tRec m x y z) 0 r0 ∧ (flat (tRec m x y z)).length = 1 ∧ php ρ (tRec m x y z) = false) ∨ ∃ n, n + 1 = (flat (tRec m x y z)).length ∧ 1 ≤ n ∧ ∃ (r : Nat) (L M : FrT), ((r = r1 ∧ L = A ∧ M = B) ∨ (r = r2 ∧ L = U ∧ M = V) ∨ (r = r3 ∧ L = X ∧ M = Y)) ∧ (∃ v ∈ frg L n, XFm t0 n1 s2 hv d (tRec m x y z) v.1 (r + v.2)) ∧ (php ρ (tRec m x y z) = true → ∃ v ∈ frg M n, XFm t0 n1 s2 hv d (tRec m x y z) v.1 (r + v.2)) := by
  obtain ⟨l, ol, ll, e1, e2, e3, e4⟩ := rec_nodep (ρ := ρ) (t0 := t0) (s2 := s2) (hv := hv) (n1 := n1) o0 o1 o2
  have hn := hr m hm
  have n3 : nlb m ≤ 3 := by
    unfold nlb
    split <;> split <;> split <;> omega
  match l, ol, ll, e1, e2, e3, e4 with
  | [], ol, ll, e1, e2, e3, e4 =>
    left
    have ll : nlb m = 0 := ll.symm
    have e1 : 0 = xt d (tRec m x y z) := e1
    have e2 : n1 (8 + m) + 0 = xa t0 n1 s2 hv d (tRec m x y z) := e2
    have e3 : 0 + 1 = (flat (tRec m x y z)).length := e3
    rw [if_pos ll] at hn
    exact ⟨ll, ⟨by omega, by omega⟩, by omega, e4.symm⟩
  | [a], ol, ll, e1, e2, e3, e4 =>
    right
    have ll : nlb m = 1 := ll.symm
    have e1 : xt d a + 0 = xt d (tRec m x y z) := e1
    have e2 : n1 (8 + m) + (xa t0 n1 s2 hv d a + 0) = xa t0 n1 s2 hv d (tRec m x y z) := e2
    have e3 : (flat a).length + 0 + 1 = (flat (tRec m x y z)).length := e3
    have e4 : (php ρ a || false) = php ρ (tRec m x y z) := e4
    rw [Bool.or_false] at e4
    rw [if_neg (by omega), if_pos ll] at hn
    have oa := ol a (by simp)
    obtain ⟨i1, i2⟩ := ih a oa (by omega)
    refine ⟨(flat a).length, by omega, flat_pos oa, r1, A, B, Or.inl ⟨rfl, rfl, rfl⟩, ?_, fun h => ?_⟩
    · obtain ⟨v, hv', f⟩ := i1
      exact ⟨v, hv', by have := f.1; omega, by have := f.2; omega⟩
    · obtain ⟨v, hv', f⟩ := i2 (by rw [e4]; exact h)
      exact ⟨v, hv', by have := f.1; omega, by have := f.2; omega⟩
  | [a, b], ol, ll, e1, e2, e3, e4 =>
    right
    have ll : nlb m = 2 := ll.symm
    have e1 : xt d a + (xt d b + 0) = xt d (tRec m x y z) := e1
    have e2 : n1 (8 + m) + (xa t0 n1 s2 hv d a + (xa t0 n1 s2 hv d b + 0)) = xa t0 n1 s2 hv d (tRec m x y z) := e2
    have e3 : (flat a).length + ((flat b).length + 0) + 1 = (flat (tRec m x y z)).length := e3
    have e4 : (php ρ a || (php ρ b || false)) = php ρ (tRec m x y z) := e4
    rw [Bool.or_false] at e4
    rw [if_neg (by omega), if_neg (by omega), if_pos ll] at hn
    have oa := ol a (by simp)
    have ob := ol b (by simp)
    obtain ⟨w1, w2⟩ := nq_two hc oa ob (ih a oa (by omega)) (ih b ob (by omega)) (by omega)
    refine ⟨(flat a).length + (flat b).length, by omega, by have := flat_pos oa; omega, r2, U, V, Or.inr (Or.inl ⟨rfl, rfl, rfl⟩), ?_, fun h => ?_⟩
    · obtain ⟨v, hv', f1, f2⟩ := w1
      exact ⟨v, hv', by omega, by omega⟩
    · rw [← e4, Bool.or_eq_true] at h
      obtain ⟨v, hv', f1, f2⟩ := w2 h
      exact ⟨v, hv', by omega, by omega⟩
  | [a, b, c], ol, ll, e1, e2, e3, e4 =>
    right
    have ll : nlb m = 3 := ll.symm
    have e1 : xt d a + (xt d b + (xt d c + 0)) = xt d (tRec m x y z) := e1
    have e2 : n1 (8 + m) + (xa t0 n1 s2 hv d a + (xa t0 n1 s2 hv d b + (xa t0 n1 s2 hv d c + 0))) = xa t0 n1 s2 hv d (tRec m x y z) := e2
    have e3 : (flat a).length + ((flat b).length + ((flat c).length + 0)) + 1 = (flat (tRec m x y z)).length := e3
    have e4 : (php ρ a || (php ρ b || (php ρ c || false))) = php ρ (tRec m x y z) := e4
    rw [Bool.or_false] at e4
    rw [if_neg (by omega), if_neg (by omega), if_neg (by omega)] at hn
    have oa := ol a (by simp)
    have ob := ol b (by simp)
    have oc := ol c (by simp)
    obtain ⟨w1, w2⟩ := nq_three hc oa ob oc (ih a oa (by omega)) (ih b ob (by omega)) (ih c oc (by omega)) (by omega)
    refine ⟨(flat a).length + ((flat b).length + (flat c).length), by omega, by have := flat_pos oa; omega, r3, X, Y, Or.inr (Or.inr ⟨rfl, rfl, rfl⟩), ?_, fun h => ?_⟩
    · obtain ⟨v, hv', f1, f2⟩ := w1
      exact ⟨v, hv', by omega, by omega⟩
    · rw [← e4, Bool.or_eq_true, Bool.or_eq_true] at h
      obtain ⟨v, hv', f1, f2⟩ := w2 h
      exact ⟨v, hv', by omega, by omega⟩
  | _ :: _ :: _ :: _ :: _, ol, ll, e1, e2, e3, e4 =>
    exfalso
    rw [List.length_cons, List.length_cons, List.length_cons, List.length_cons] at ll
    omega
/-- every type of at most 14 nodes -/
theorem nq_form (hc : nfcp A B U V X Y t0 fn s2 hv r0 r1 r2 r3 = true) (ht0 : t0 ≤ 1) (hK : ∀ (a c : Ty) (d : Nat), ok d a = true → ok (d + 1) c = true → (flat (tAll a c)).length ≤ 14 → ρ a c = true → ∃ p ∈ frg B (flat (tAll a c)).length, XFm t0 n1 s2 hv d (tAll a c) p.1 p.2) (hf1 : n1 1 ≤ fn) (hr : ∀ m, m < 8 → n1 (8 + m) ≤ (if nlb m = 0 then r0 else if nlb m = 1 then r1 else if nlb m = 2 then r2 else r3)) : ∀ (f : Nat) (t : Ty) (d : Nat), (flat t).length ≤ f → ok d t = true → (flat t).length ≤ 14 → NFq ρ A B t0 n1 s2 hv d t
  | 0, t, d, hf, o, _ => by have := flat_pos o; omega
  | f + 1, t, d, hf, o, hk => by
    have fin : ∀ {l a : Nat} {t : Ty} {L : List (Nat × Nat)}, XFm t0 n1 s2 hv d t l a → dom l a L = true → ∃ p ∈ L, XFm t0 n1 s2 hv d t p.1 p.2 := by
      intro l a t L g hd
      obtain ⟨p, hp, h1, h2⟩ := dom_ex hd
      exact ⟨p, hp, g.mono h1 h2⟩
    have ih := fun t d => nq_form hc ht0 hK hf1 hr f t d
    have z0 := hc
    unfold nfcp at z0
    simp only [Bool.and_eq_true] at z0
    obtain ⟨⟨z1, z2, z3⟩, -⟩ := z0
    rcases ok_cases o with rfl | ⟨j, hj, rfl⟩ | ⟨a, c, rfl, ha, hb⟩ | ⟨a, c, rfl, ha, hb⟩ | ⟨m, x, y, z, hm, rfl, h0, h1, h2⟩
    · exact ⟨fin XFm_top z1, fun h => by rw [php_top] at h; cases h⟩
    · exact ⟨fin (XFm_var j) z2, fun h => by rw [php_var] at h; cases h⟩
    · have el : (flat (tFun a c)).length = (flat a).length + (flat c).length + 1 := by rw [flat_fun, List.length_cons, List.length_append]
      rw [el] at hf hk
      have st := nfcp_p hc (flat_pos ha) (flat_pos hb) (by omega)
      unfold nst at st
      simp only [Bool.and_eq_true] at st
      obtain ⟨⟨⟨s1, s2', s3⟩, -⟩, -⟩ := st
      obtain ⟨i1, i2⟩ := ih a d (by omega) ha (by omega)
      obtain ⟨k1, k2⟩ := ih c d (by omega) hb (by omega)
      have go : ∀ {p q : Nat × Nat} {L : List (Nat × Nat)}, XFm t0 n1 s2 hv d a p.1 p.2 → XFm t0 n1 s2 hv d c q.1 q.2 → dom (p.1 + q.1) (fn + (p.2 + q.2)) L = true → ∃ v ∈ L, XFm t0 n1 s2 hv d (tFun a c) v.1 v.2 := fun fp fq hd => fin ((XFm_fun fp fq).mono (Nat.le_refl _) (by omega)) hd
      unfold NFq
      rw [el]
      obtain ⟨p, hp, fp⟩ := i1
      obtain ⟨q, hq, fq⟩ := k1
      refine ⟨go fp fq (prn_get s1 hp hq), fun h => ?_⟩
      rw [php_fun, Bool.or_eq_true] at h
      rcases h with h | h
      · obtain ⟨p', hp', fp'⟩ := i2 h
        exact go fp' fq (prn_get s2' hp' hq)
      · obtain ⟨q', hq', fq'⟩ := k2 h
        exact go fp fq' (prn_get s3 hp hq')
    · have el : (flat (tAll a c)).length = (flat a).length + (flat c).length + 1 := by rw [flat_all, List.length_cons, List.length_append]
      rw [el] at hf hk
      have pa := flat_pos ha
      have pc := flat_pos hb
      have st := nfcp_p hc pa pc (by omega)
      unfold nst at st
      simp only [Bool.and_eq_true] at st
      obtain ⟨⟨-, s1, s2', s3⟩, -⟩ := st
      obtain ⟨i1, i2⟩ := ih a d (by omega) ha (by omega)
      obtain ⟨k1, k2⟩ := ih c (d + 1) (by omega) hb (by omega)
      have go : ∀ {p q : Nat × Nat} {L : List (Nat × Nat)}, XFm t0 n1 s2 hv d a p.1 p.2 → XFm t0 n1 s2 hv (d + 1) c q.1 q.2 → hsp s2 hv p q L = true → ∃ v ∈ L, XFm t0 n1 s2 hv d (tAll a c) v.1 v.2 := by
        intro p q L fp fq hd
        obtain ⟨u, hu, g⟩ := XFm_all fp fq
        obtain ⟨w, hw, g1, g2⟩ := hsp_dom hd hu
        exact ⟨w, hw, g.mono g1 g2⟩
      unfold NFq
      rw [el]
      obtain ⟨p, hp, fp⟩ := i1
      obtain ⟨q, hq, fq⟩ := k1
      refine ⟨go fp fq (hpn_get s1 hp hq), fun h => ?_⟩
      rw [php_all, Bool.or_eq_true, Bool.or_eq_true] at h
      rcases h with h | h | h
      · have g := hK a c d ha hb (by rw [el]; omega) h
        rw [el] at g
        exact g
      · obtain ⟨p', hp', fp'⟩ := i2 h
        exact go fp' fq (hpn_get s2' hp' hq)
      · obtain ⟨q', hq', fq'⟩ := k2 h
        exact go fp fq' (hpn_get s3 hp hq')
    · have ir : ∀ q, ok d q = true → (flat q).length < (flat (tRec m x y z)).length → NFq ρ A B t0 n1 s2 hv d q := fun q oq hq => ih q d (by omega) oq (by omega)
      rcases nq_rec hc hr hm h0 h1 h2 hk ir with ⟨-, g, e, e'⟩ | ⟨n, en, n1', r, L, M, hL, g1, g2⟩
      · unfold NFq
        rw [e]
        exact ⟨fin g z3, fun h => by rw [e'] at h; cases h⟩
      · unfold NFq
        rw [← en]
        have so := nfcp_o hc (n := n) n1' (by omega)
        unfold nsop at so
        simp only [Bool.and_eq_true] at so
        obtain ⟨⟨u1, u2, u3⟩, v1, v2, v3⟩ := so
        rcases hL with ⟨rfl, rfl, rfl⟩ | ⟨rfl, rfl, rfl⟩ | ⟨rfl, rfl, rfl⟩
        · obtain ⟨v, hv', f'⟩ := g1
          refine ⟨fin f' (nsu_get u1 hv'), fun h => ?_⟩
          obtain ⟨v, hv', f'⟩ := g2 h
          exact fin f' (nsu_get v1 hv')
        · obtain ⟨v, hv', f'⟩ := g1
          refine ⟨fin f' (nsu_get u2 hv'), fun h => ?_⟩
          obtain ⟨v, hv', f'⟩ := g2 h
          exact fin f' (nsu_get v2 hv')
        · obtain ⟨v, hv', f'⟩ := g1
          refine ⟨fin f' (nsu_get u3 hv'), fun h => ?_⟩
          obtain ⟨v, hv', f'⟩ := g2 h
          exact fin f' (nsu_get v3 hv')
end PmNk
def nNL1 : FrT := [[], [(0, 2)], [(1, 2), (0, 4)], [(2, 2), (1, 5), (0, 6)], [(3, 2), (2, 4), (1, 7), (0, 8)], [(3, 4), (2, 9), (1, 10), (0, 11)], [(4, 4), (3, 11), (1, 12), (0, 15)], [(5, 4), (4, 11), (3, 14), (2, 17), (0, 20)], [(6, 14), (4, 15), (3, 23), (0, 26)], [(9, 14), (6, 20), (4, 25), (3, 29), (0, 32)], [(9, 20), (6, 35), (3, 38), (0, 41)], [(12, 20), (10, 22), (9, 41), (3, 44), (0, 53)], [(15, 22), (12, 41), (9, 50), (6, 59), (0, 68)], [(18, 50), (12, 55), (10, 57), (9, 77), (0, 86)], [(27, 50), (18, 68), (12, 83), (9, 95), (0, 104)]]
def nK21 : FrT := [[], [], [], [(1, 3), (0, 6)], [(1, 6), (0, 8)], [(2, 6), (1, 9), (0, 11)], [(3, 6), (2, 11), (0, 15)], [(4, 11), (3, 14), (2, 17), (0, 20)], [(6, 14), (4, 15), (3, 23), (0, 26)], [(9, 14), (6, 20), (4, 25), (3, 29), (0, 32)], [(9, 20), (6, 35), (3, 38), (0, 41)], [(12, 20), (10, 22), (9, 41), (3, 44), (0, 53)], [(15, 22), (12, 41), (9, 50), (6, 59), (0, 68)], [(18, 50), (12, 55), (10, 57), (9, 77), (0, 86)], [(27, 50), (18, 68), (12, 83), (9, 95), (0, 104)]]
def n2B1 : FrT := [[], [], [], [], [], [(1, 6), (0, 9)], [(1, 9), (0, 11)], [(2, 9), (1, 12), (0, 14)], [(3, 9), (2, 14), (1, 16), (0, 18)], [(4, 14), (3, 17), (2, 20), (1, 22), (0, 25)], [(6, 17), (5, 19), (4, 21), (3, 26), (2, 28), (1, 30), (0, 35)], [(9, 17), (8, 19), (7, 21), (6, 23), (5, 25), (4, 28), (3, 35), (1, 36), (0, 41)], [(9, 23), (8, 25), (7, 27), (6, 38), (5, 40), (4, 42), (3, 44), (2, 46), (1, 48), (0, 50)], [(12, 23), (11, 25), (10, 27), (9, 44), (8, 46), (7, 48), (6, 50), (5, 52), (4, 54), (3, 56), (2, 58), (1, 60), (0, 62)], [(15, 25), (14, 27), (13, 29), (12, 50), (9, 59), (6, 68), (3, 74), (0, 83)]]
def n2V1 : FrT := [[], [], [], [], [], [], [(2, 6), (1, 9), (0, 11)], [(2, 9), (1, 11), (0, 13)], [(3, 9), (2, 12), (1, 14), (0, 16)], [(4, 9), (3, 14), (2, 16), (1, 18), (0, 20)], [(5, 14), (4, 17), (3, 20), (2, 22), (1, 25), (0, 27)], [(7, 17), (6, 19), (5, 21), (4, 26), (3, 28), (2, 30), (1, 35), (0, 37)], [(10, 17), (9, 19), (8, 21), (7, 23), (6, 25), (5, 28), (4, 35), (3, 37), (1, 41), (0, 43)], [(10, 23), (9, 25), (8, 27), (7, 38), (6, 40), (5, 42), (4, 44), (3, 46), (2, 48), (1, 50), (0, 52)], [(13, 23), (12, 25), (11, 27), (10, 44), (9, 46), (8, 48), (7, 50), (6, 52), (5, 54), (4, 56), (3, 58), (2, 60), (1, 62), (0, 64)]]
def n2Y1 : FrT := [[], [], [], [], [], [], [], [(3, 6), (2, 9), (1, 11), (0, 13)], [(3, 9), (2, 11), (1, 13), (0, 15)], [(4, 9), (3, 12), (2, 14), (1, 16), (0, 18)], [(5, 9), (4, 14), (3, 16), (2, 18), (1, 20), (0, 22)], [(6, 14), (5, 17), (4, 20), (3, 22), (2, 25), (1, 27), (0, 29)], [(8, 17), (7, 19), (6, 21), (5, 26), (4, 28), (3, 30), (2, 35), (1, 37), (0, 39)], [(11, 17), (10, 19), (9, 21), (8, 23), (7, 25), (6, 28), (5, 35), (4, 37), (3, 39), (2, 41), (1, 43), (0, 45)], [(11, 23), (10, 25), (9, 27), (8, 38), (7, 40), (6, 42), (5, 44), (4, 46), (3, 48), (2, 50), (1, 52), (0, 54)]]
def nvB1 : FrT := [[], [], [], [(1, 3), (0, 5)], [(1, 5), (0, 7)], [(2, 5), (1, 8), (0, 9)], [(3, 5), (2, 7), (1, 10), (0, 11)], [(3, 7), (2, 13), (0, 17)], [(4, 7), (3, 17), (0, 23)], [(5, 7), (4, 17), (3, 23), (0, 29)], [(6, 23), (3, 32), (0, 35)], [(9, 23), (6, 29), (4, 33), (3, 38), (0, 41)], [(9, 29), (8, 31), (6, 47), (0, 59)], [(12, 31), (10, 37), (9, 59), (1, 65), (0, 77)], [(15, 37), (12, 59), (9, 77), (1, 81), (0, 95)]]
def nvV1 : FrT := [[], [], [], [], [(2, 3), (1, 5), (0, 7)], [(2, 5), (1, 7), (0, 9)], [(3, 5), (2, 8), (1, 10), (0, 11)], [(4, 5), (3, 7), (2, 10), (1, 12), (0, 13)], [(4, 7), (3, 13), (2, 15), (1, 17), (0, 19)], [(5, 7), (4, 17), (3, 19), (1, 23), (0, 25)], [(6, 7), (5, 17), (4, 23), (3, 25), (1, 29), (0, 31)], [(7, 23), (6, 25), (4, 32), (3, 34), (1, 35), (0, 37)], [(10, 23), (9, 25), (7, 29), (6, 31), (5, 33), (4, 38), (3, 40), (1, 41), (0, 43)], [(10, 29), (9, 31), (8, 33), (7, 47), (6, 49), (1, 59), (0, 61)], [(13, 31), (12, 33), (11, 37), (10, 59), (9, 61), (2, 65), (1, 77), (0, 79)]]
def nvY1 : FrT := [[], [], [], [], [], [(3, 3), (2, 5), (1, 7), (0, 9)], [(3, 5), (2, 7), (1, 9), (0, 11)], [(4, 5), (3, 8), (2, 10), (1, 12), (0, 13)], [(5, 5), (4, 7), (3, 10), (2, 12), (1, 14), (0, 15)], [(5, 7), (4, 13), (3, 15), (2, 17), (1, 19), (0, 21)], [(6, 7), (5, 17), (4, 19), (3, 21), (2, 23), (1, 25), (0, 27)], [(7, 7), (6, 17), (5, 23), (4, 25), (3, 27), (2, 29), (1, 31), (0, 33)], [(8, 23), (7, 25), (6, 27), (5, 32), (4, 34), (3, 36), (1, 37), (0, 39)], [(11, 23), (10, 25), (9, 27), (8, 29), (7, 31), (6, 33), (5, 38), (4, 40), (3, 42), (1, 43), (0, 45)], [(11, 29), (10, 31), (9, 33), (8, 47), (7, 49), (6, 51), (2, 59), (1, 61), (0, 63)]]
def nwB1 : FrT := [[], [], [], [], [], [], [], [(1, 10), (0, 13)], [(1, 13), (0, 15)], [(2, 16), (0, 22)], [(3, 20), (2, 22), (0, 29)], [(4, 22), (3, 29), (0, 35)], [(6, 29), (4, 32), (3, 38), (0, 47)], [(9, 29), (8, 32), (6, 44), (3, 47), (0, 56)], [(12, 44), (9, 53), (6, 62), (0, 74)]]
def nwV1 : FrT := [[], [], [], [], [], [], [], [], [(2, 10), (1, 13), (0, 15)], [(2, 13), (1, 15), (0, 17)], [(3, 16), (2, 18), (1, 22), (0, 24)], [(4, 20), (3, 22), (2, 24), (1, 29), (0, 31)], [(5, 22), (4, 29), (3, 31), (1, 35), (0, 37)], [(7, 29), (6, 31), (5, 32), (4, 38), (3, 40), (1, 47), (0, 49)], [(10, 29), (9, 32), (8, 34), (7, 44), (6, 46), (4, 47), (3, 49), (1, 56), (0, 58)]]
def nwY1 : FrT := [[], [], [], [], [], [], [], [], [], [(3, 10), (2, 13), (1, 15), (0, 17)], [(3, 13), (2, 15), (1, 17), (0, 19)], [(4, 16), (3, 18), (2, 22), (1, 24), (0, 26)], [(5, 20), (4, 22), (3, 24), (2, 29), (1, 31), (0, 33)], [(6, 22), (5, 29), (4, 31), (3, 33), (2, 35), (1, 37), (0, 39)], [(8, 29), (7, 31), (6, 33), (5, 38), (4, 40), (3, 42), (2, 47), (1, 49), (0, 51)]]
def nCW1 : List (Nat × Nat) := [(12, 38), (9, 47), (6, 56), (1, 60), (0, 65)]
theorem nK2c1 : (List.range 12).all (fun i => (List.range (12 - i)).all (fun j => hpn 3 1 (frg nNL1 (i + 1)) (frg nA1 (j + 1)) (frg nK21 (i + j + 3)))) = true := by decide +kernel
theorem nNLc1 : (List.range 13).all (fun n => nsu (frg nA1 (n + 2)) (frg nNL1 (n + 2)) 0) = true := by decide +kernel
theorem nNLd1 : dom 0 2 (frg nNL1 1) = true := by decide +kernel
theorem n2c1 : nfcp nA1 n2B1 nU1 n2V1 nX1 n2Y1 0 2 3 1 2 2 2 2 = true := by decide +kernel
theorem nvc1 : nfcp nA1 nvB1 nU1 nvV1 nX1 nvY1 0 2 3 1 2 2 2 2 = true := by decide +kernel
theorem nwc1 : nfcp nA1 nwB1 nU1 nwV1 nX1 nwY1 0 2 3 1 2 2 2 2 = true := by decide +kernel
theorem n2d1 : (List.range 12).all (fun n => hpn 3 1 [(0, 1)] (frg nK21 (n + 1)) (frg n2B1 (n + 3))) = true := by decide +kernel
theorem nvd1 : hpn 3 1 [(0, 1)] [(1, 0)] (frg nvB1 3) = true := by decide +kernel
theorem nwd1 : (List.range 12).all (fun i => (List.range (12 - i)).all (fun j => hpn 3 1 (frg nK21 (i + 1)) (frg nvB1 (j + 1)) (frg nwB1 (i + j + 3)))) = true := by decide +kernel
theorem nCd1 : (List.range 12).all (fun i => (List.range (12 - i)).all (fun j => hpn 3 1 (frg nNL1 (i + 1)) (frg n2B1 (j + 1)) nCW1 && hpn 3 1 (frg nNL1 (i + 1)) (frg nwB1 (j + 1)) nCW1)) = true := by decide +kernel
theorem php_mono {ρ σ : Ty → Ty → Bool} (h : ∀ a b, ρ a b = true → σ a b = true) : ∀ (n : Nat) (t : Ty) (d : Nat), (flat t).length ≤ n → ok d t = true → php ρ t = true → php σ t = true
  | 0, t, d, hf, o, _ => by have := flat_pos o; omega
  | n + 1, t, d, hf, o, hp => by
    rcases ok_cases o with rfl | ⟨j, hj, rfl⟩ | ⟨x, y, rfl, hx, hy⟩ | ⟨x, y, rfl, hx, hy⟩ | ⟨m, x, y, z, hm, rfl, h0, h1, h2⟩
    · rw [php_top] at hp; cases hp
    · rw [php_var] at hp; cases hp
    · rw [flat_fun, List.length_cons, List.length_append] at hf
      rw [php_fun, Bool.or_eq_true] at hp ⊢
      exact hp.imp (php_mono h n x d (by omega) hx) (php_mono h n y d (by omega) hy)
    · rw [flat_all, List.length_cons, List.length_append] at hf
      rw [php_all, Bool.or_eq_true, Bool.or_eq_true] at hp ⊢
      exact hp.imp (h x y) (fun hp => hp.imp (php_mono h n x d (by omega) hx) (php_mono h n y (d + 1) (by omega) hy))
    · rw [flat_rec, List.length_cons, List.length_append, List.length_append] at hf
      have key : ∀ (i : Nat) (p : Ty), (flat p).length ≤ n → okl d m i p → php ρ p = true → php σ p = true := by
        intro i p hp ho hq
        unfold okl at ho
        by_cases hb : bit m i = true
        · rw [if_pos hb] at ho
          exact php_mono h n p d hp ho hq
        · rw [if_neg hb] at ho
          rw [ho, php_nil] at hq
          cases hq
      rw [php_rec, Bool.or_eq_true, Bool.or_eq_true] at hp ⊢
      exact hp.imp (key 0 x (by omega) h0) (fun hp => hp.imp (key 1 y (by omega) h1) (key 2 z (by omega) h2))
theorem bdC_or {b e : Ty} {d : Nat} (oe : ok d e = true) (h : bdC b e = true) : php rho2 e = true ∨ php rhow e = true := by
  unfold bdC at h
  rw [Bool.or_eq_true, Bool.or_eq_true, Bool.and_eq_true, Bool.and_eq_true] at h
  rcases h with h | h | h
  · exact Or.inl h.2
  · refine Or.inl (php_mono (fun a b q => ?_) _ e d (Nat.le_refl _) oe h.2)
    unfold rhos at q
    unfold rho2
    rw [Bool.and_eq_true, Bool.and_eq_true] at q
    rw [Bool.and_eq_true]
    exact ⟨q.1, q.2.1⟩
  · exact Or.inr h
section PmNl1
variable {d : Nat} {a b c e t : Ty}
theorem nxa1 (o : ok d t = true) (hk : (flat t).length ≤ 14) : ∃ p ∈ frg nA1 (flat t).length, XFm 0 (fun _ => 1 + 1) 3 1 d t p.1 p.2 := (nf_form (t0 := 0) (n1 := fun _ => 1 + 1) (s2 := 3) (hv := 1) nf1_ok (by decide) (tbs1 true).2.2.2.1 (tbs1 true).2.2.2.2.1 _ t d (Nat.le_refl _) o hk).1
theorem nhd1 {L : List (Nat × Nat)} {P Q : List (Nat × Nat)} (h : hpn 3 1 P Q L = true) (ha : ∃ p ∈ P, XFm 0 (fun _ => 1 + 1) 3 1 d a p.1 p.2) (hc : ∃ q ∈ Q, XFm 0 (fun _ => 1 + 1) 3 1 (d + 1) c q.1 q.2) : ∃ v ∈ L, XFm 0 (fun _ => 1 + 1) 3 1 d (tAll a c) v.1 v.2 := by
  obtain ⟨p, hp, fp⟩ := ha
  obtain ⟨q, hq, fq⟩ := hc
  obtain ⟨u, hu, g⟩ := XFm_all fp fq
  obtain ⟨w, hw, g1, g2⟩ := hsp_dom (hpn_get h hp hq) hu
  exact ⟨w, hw, g.mono g1 g2⟩
theorem nnl1 (o : ok d t = true) (h : hd t ≠ 0 ∧ hd t < 16) (hk : (flat t).length ≤ 14) : ∃ p ∈ frg nNL1 (flat t).length, XFm 0 (fun _ => 1 + 1) 3 1 d t p.1 p.2 := by
  have big : 2 ≤ (flat t).length → ∃ p ∈ frg nNL1 (flat t).length, XFm 0 (fun _ => 1 + 1) 3 1 d t p.1 p.2 := by
    intro h2
    obtain ⟨p, hp, fp⟩ := nxa1 o hk
    have q := rng_all nNLc1 (i := (flat t).length - 2) (by omega)
    rw [show (flat t).length - 2 + 2 = (flat t).length by omega] at q
    obtain ⟨v, hv, g1, g2⟩ := dom_ex (nsu_get q hp)
    exact ⟨v, hv, fp.mono g1 (by omega)⟩
  rcases ok_cases o with rfl | ⟨j, hj, rfl⟩ | ⟨a, c, rfl, ha, hb⟩ | ⟨a, c, rfl, ha, hb⟩ | ⟨m, x, y, z, hm, rfl, h0, h1, h2⟩
  · exact absurd rfl h.1
  · have := h.2; rw [hd_var] at this; omega
  · refine big ?_
    have := flat_pos ha
    rw [flat_fun, List.length_cons, List.length_append]; omega
  · refine big ?_
    have := flat_pos ha
    rw [flat_all, List.length_cons, List.length_append]; omega
  · rcases nf_rec (t0 := 0) (n1 := fun _ => 1 + 1) (s2 := 3) (hv := 1) nf1_ok (tbs1 true).2.2.2.2.1 hm h0 h1 h2 hk (fun q oq hq => nf_form (t0 := 0) (n1 := fun _ => 1 + 1) (s2 := 3) (hv := 1) nf1_ok (by decide) (tbs1 true).2.2.2.1 (tbs1 true).2.2.2.2.1 _ q d (Nat.le_refl _) oq (by omega)) with ⟨-, g, e, -⟩ | ⟨n, en, n1', -⟩
    · obtain ⟨v, hv, g1, g2⟩ := dom_ex nNLd1
      rw [e]
      exact ⟨v, hv, g.mono g1 g2⟩
    · exact big (by omega)
theorem nk21 (o : ok d t = true) (h : k2n t = true) (hk : (flat t).length ≤ 14) : ∃ p ∈ frg nK21 (flat t).length, XFm 0 (fun _ => 1 + 1) 3 1 d t p.1 p.2 := by
  obtain ⟨a, c, rfl, oa, oc, h0, h1⟩ := k2n_is o h
  have el : (flat (tAll a c)).length = (flat a).length + (flat c).length + 1 := by rw [flat_all, List.length_cons, List.length_append]
  rw [el] at hk ⊢
  have pa := flat_pos oa
  have pc := flat_pos oc
  have q := rng_all (rng_all nK2c1 (i := (flat a).length - 1) (by omega)) (i := (flat c).length - 1) (by omega)
  rw [show (flat a).length - 1 + 1 = (flat a).length by omega, show (flat c).length - 1 + 1 = (flat c).length by omega, show (flat a).length - 1 + ((flat c).length - 1) + 3 = (flat a).length + (flat c).length + 1 by omega] at q
  exact nhd1 q (nnl1 oa ⟨h0, h1⟩ (by omega)) (nxa1 oc (by omega))
theorem ntp1 : ∃ p ∈ [((0 : Nat), (1 : Nat))], XFm 0 (fun _ => 1 + 1) 3 1 d tTop p.1 p.2 := ⟨(0, 1), by simp, XFm_top.mono (Nat.le_refl _) (by decide)⟩
theorem np21 (o : ok d t = true) (hk : (flat t).length ≤ 14) (h : php rho2 t = true) : ∃ p ∈ frg n2B1 (flat t).length, XFm 0 (fun _ => 1 + 1) 3 1 d t p.1 p.2 := by
  refine (nq_form (ρ := rho2) (t0 := 0) (n1 := fun _ => 1 + 1) (s2 := 3) (hv := 1) n2c1 (by decide) (fun a c d oa oc hk hr => ?_) (tbs1 true).2.2.2.1 (tbs1 true).2.2.2.2.1 _ t d (Nat.le_refl _) o hk).2 h
  unfold rho2 at hr
  rw [Bool.and_eq_true, decide_eq_true_iff] at hr
  have ea := top_of oa hr.1
  subst ea
  have el : (flat (tAll tTop c)).length = (flat c).length + 2 := by
    rw [flat_all, List.length_cons, List.length_append]
    have : (flat tTop).length = 1 := rfl
    omega
  rw [el] at hk ⊢
  have pc := flat_pos oc
  have q := rng_all n2d1 (i := (flat c).length - 1) (by omega)
  rw [show (flat c).length - 1 + 1 = (flat c).length by omega, show (flat c).length - 1 + 3 = (flat c).length + 2 by omega] at q
  exact nhd1 q ntp1 (nk21 oc hr.2 (by omega))
theorem npv1 (o : ok d t = true) (hk : (flat t).length ≤ 14) (h : php rhov t = true) : ∃ p ∈ frg nvB1 (flat t).length, XFm 0 (fun _ => 1 + 1) 3 1 d t p.1 p.2 := by
  refine (nq_form (ρ := rhov) (t0 := 0) (n1 := fun _ => 1 + 1) (s2 := 3) (hv := 1) nvc1 (by decide) (fun a c d oa oc hk hr => ?_) (tbs1 true).2.2.2.1 (tbs1 true).2.2.2.2.1 _ t d (Nat.le_refl _) o hk).2 h
  unfold rhov at hr
  rw [Bool.and_eq_true, decide_eq_true_iff, decide_eq_true_iff] at hr
  have ea := top_of oa hr.1
  subst ea
  obtain ⟨j, hj, rfl⟩ := hd_is_var oc hr.2
  exact nhd1 nvd1 ntp1 ⟨(1, 0), by simp, XFm_var j⟩
theorem npw1 (o : ok d t = true) (hk : (flat t).length ≤ 14) (h : php rhow t = true) : ∃ p ∈ frg nwB1 (flat t).length, XFm 0 (fun _ => 1 + 1) 3 1 d t p.1 p.2 := by
  refine (nq_form (ρ := rhow) (t0 := 0) (n1 := fun _ => 1 + 1) (s2 := 3) (hv := 1) nwc1 (by decide) (fun a c d oa oc hk hr => ?_) (tbs1 true).2.2.2.1 (tbs1 true).2.2.2.2.1 _ t d (Nat.le_refl _) o hk).2 h
  unfold rhow at hr
  rw [Bool.and_eq_true] at hr
  have el : (flat (tAll a c)).length = (flat a).length + (flat c).length + 1 := by rw [flat_all, List.length_cons, List.length_append]
  rw [el] at hk ⊢
  have pa := flat_pos oa
  have pc := flat_pos oc
  have q := rng_all (rng_all nwd1 (i := (flat a).length - 1) (by omega)) (i := (flat c).length - 1) (by omega)
  rw [show (flat a).length - 1 + 1 = (flat a).length by omega, show (flat c).length - 1 + 1 = (flat c).length by omega, show (flat a).length - 1 + ((flat c).length - 1) + 3 = (flat a).length + (flat c).length + 1 by omega] at q
  exact nhd1 q (nk21 oa hr.1 (by omega)) (npv1 oc (by omega) hr.2)
theorem nC_f1 (ob : ok d b = true) (oe : ok (d + 1) e = true) (hb : hd b ≠ 0 ∧ hd b < 16) (hk : (flat (tAll b e)).length ≤ 14) (h : bdC b e = true) : ∃ v ∈ nCW1, XFm 0 (fun _ => 1 + 1) 3 1 d (tAll b e) v.1 v.2 := by
  have el : (flat (tAll b e)).length = (flat b).length + (flat e).length + 1 := by rw [flat_all, List.length_cons, List.length_append]
  rw [el] at hk
  have pa := flat_pos ob
  have pc := flat_pos oe
  have q := rng_all (rng_all nCd1 (i := (flat b).length - 1) (by omega)) (i := (flat e).length - 1) (by omega)
  rw [show (flat b).length - 1 + 1 = (flat b).length by omega, show (flat e).length - 1 + 1 = (flat e).length by omega, Bool.and_eq_true] at q
  have nb := nnl1 ob hb (by omega)
  rcases bdC_or oe h with h | h
  · exact nhd1 q.1 nb (np21 oe (by omega) h)
  · exact nhd1 q.2 nb (npw1 oe (by omega) h)
end PmNl1
def nNLq : FrT := [[], [(0, 1)], [(1, 3), (0, 4)], [(2, 2), (1, 6), (0, 7)], [(3, 1), (2, 5), (1, 9), (0, 10)], [(3, 4), (2, 8), (1, 12), (0, 13)], [(4, 3), (3, 7), (2, 11), (1, 15), (0, 16)], [(5, 2), (4, 7), (3, 11), (2, 15), (1, 18), (0, 19)], [(6, 8), (4, 13), (3, 20), (2, 21), (0, 23)], [(9, 5), (6, 17), (4, 19), (3, 29), (0, 32)], [(9, 14), (6, 26), (4, 28), (3, 38), (0, 41)], [(12, 11), (10, 13), (9, 23), (8, 24), (6, 35), (4, 40), (3, 47), (0, 50)], [(15, 8), (12, 23), (10, 28), (9, 35), (8, 36), (6, 47), (5, 48), (4, 52), (3, 56), (0, 59)], [(18, 26), (12, 41), (10, 43), (9, 62), (6, 65), (0, 71)], [(27, 17), (20, 18), (18, 53), (12, 59), (9, 89), (0, 98)]]
def nK2q : FrT := [[], [], [], [(1, 1), (0, 2)], [(1, 4), (0, 5)], [(2, 3), (1, 7), (0, 8)], [(3, 2), (2, 9), (1, 10), (0, 11)], [(4, 7), (3, 11), (2, 15), (0, 17)], [(6, 8), (4, 13), (3, 20), (2, 21), (0, 23)], [(9, 5), (6, 17), (4, 19), (3, 29), (0, 32)], [(9, 14), (6, 26), (4, 28), (3, 38), (0, 41)], [(12, 11), (10, 13), (9, 23), (8, 24), (6, 35), (4, 40), (3, 47), (0, 50)], [(15, 8), (12, 23), (10, 28), (9, 35), (8, 36), (6, 47), (5, 48), (4, 52), (3, 56), (0, 59)], [(18, 26), (12, 41), (10, 43), (9, 62), (6, 65), (0, 71)], [(27, 17), (20, 18), (18, 53), (12, 59), (9, 89), (0, 98)]]
def n2Bq : FrT := [[], [], [], [], [], [(1, 2), (0, 3)], [(1, 5), (0, 6)], [(2, 4), (1, 8), (0, 9)], [(3, 3), (2, 10), (1, 11), (0, 12)], [(4, 8), (3, 12), (2, 16), (1, 17), (0, 18)], [(6, 9), (5, 10), (4, 14), (3, 21), (2, 22), (1, 23), (0, 24)], [(9, 6), (8, 7), (7, 8), (6, 18), (5, 19), (4, 20), (3, 30), (2, 31), (1, 32), (0, 33)], [(9, 15), (8, 16), (7, 17), (6, 27), (5, 28), (4, 29), (3, 39), (2, 40), (1, 41), (0, 42)], [(12, 12), (11, 13), (10, 14), (9, 24), (8, 25), (7, 26), (6, 36), (5, 37), (4, 41), (3, 48), (2, 49), (1, 50), (0, 51)], [(15, 9), (14, 10), (13, 11), (12, 26), (10, 29), (9, 38), (6, 50), (4, 53), (3, 57), (2, 58), (1, 59), (0, 60)]]
def n2Vq : FrT := [[], [], [], [], [], [], [(2, 2), (1, 3), (0, 4)], [(2, 5), (1, 6), (0, 7)], [(3, 4), (2, 8), (1, 9), (0, 10)], [(4, 3), (3, 10), (2, 11), (1, 12), (0, 13)], [(5, 8), (4, 12), (3, 16), (2, 17), (1, 18), (0, 19)], [(7, 9), (6, 10), (5, 14), (4, 21), (3, 22), (2, 23), (1, 24), (0, 25)], [(10, 6), (9, 7), (8, 8), (7, 18), (6, 19), (5, 20), (4, 30), (3, 31), (2, 32), (1, 33), (0, 34)], [(10, 15), (9, 16), (8, 17), (7, 27), (6, 28), (5, 29), (4, 39), (3, 40), (2, 41), (1, 42), (0, 43)], [(13, 12), (12, 13), (11, 14), (10, 24), (9, 25), (8, 26), (7, 36), (6, 37), (5, 41), (4, 48), (3, 49), (2, 50), (1, 51), (0, 52)]]
def n2Yq : FrT := [[], [], [], [], [], [], [], [(3, 2), (2, 3), (1, 4), (0, 5)], [(3, 5), (2, 6), (1, 7), (0, 8)], [(4, 4), (3, 8), (2, 9), (1, 10), (0, 11)], [(5, 3), (4, 10), (3, 11), (2, 12), (1, 13), (0, 14)], [(6, 8), (5, 12), (4, 16), (3, 17), (2, 18), (1, 19), (0, 20)], [(8, 9), (7, 10), (6, 14), (5, 21), (4, 22), (3, 23), (2, 24), (1, 25), (0, 26)], [(11, 6), (10, 7), (9, 8), (8, 18), (7, 19), (6, 20), (5, 30), (4, 31), (3, 32), (2, 33), (1, 34), (0, 35)], [(11, 15), (10, 16), (9, 17), (8, 27), (7, 28), (6, 29), (5, 39), (4, 40), (3, 41), (2, 42), (1, 43), (0, 44)]]
def nvBq : FrT := [[], [], [], [(1, 1), (0, 2)], [(1, 4), (0, 5)], [(2, 3), (1, 7), (0, 8)], [(3, 2), (2, 6), (1, 10), (0, 11)], [(3, 5), (2, 9), (1, 13), (0, 14)], [(4, 4), (3, 8), (2, 12), (1, 16), (0, 17)], [(5, 3), (4, 9), (3, 14), (2, 17), (1, 19), (0, 20)], [(6, 11), (4, 15), (3, 23), (0, 26)], [(9, 8), (6, 20), (4, 21), (3, 32), (0, 35)], [(9, 17), (6, 29), (4, 32), (3, 41), (0, 44)], [(12, 14), (10, 18), (9, 26), (8, 28), (6, 38), (4, 44), (3, 50), (0, 53)], [(15, 13), (12, 29), (10, 33), (9, 44), (6, 53), (4, 56), (3, 59), (0, 62)]]
def nvVq : FrT := [[], [], [], [], [(2, 1), (1, 2), (0, 3)], [(2, 4), (1, 5), (0, 6)], [(3, 3), (2, 7), (1, 8), (0, 9)], [(4, 2), (3, 6), (2, 10), (1, 11), (0, 12)], [(4, 5), (3, 9), (2, 13), (1, 14), (0, 15)], [(5, 4), (4, 8), (3, 12), (2, 16), (1, 17), (0, 18)], [(6, 3), (5, 9), (4, 14), (3, 17), (2, 19), (1, 20), (0, 21)], [(7, 11), (6, 12), (5, 15), (4, 23), (3, 24), (1, 26), (0, 27)], [(10, 8), (9, 9), (7, 20), (6, 21), (4, 32), (3, 33), (1, 35), (0, 36)], [(10, 17), (9, 18), (7, 29), (6, 30), (5, 32), (4, 41), (3, 42), (1, 44), (0, 45)], [(13, 14), (12, 15), (11, 18), (10, 26), (9, 28), (8, 29), (7, 38), (6, 39), (5, 44), (4, 50), (3, 51), (1, 53), (0, 54)]]
def nvYq : FrT := [[], [], [], [], [], [(3, 1), (2, 2), (1, 3), (0, 4)], [(3, 4), (2, 5), (1, 6), (0, 7)], [(4, 3), (3, 7), (2, 8), (1, 9), (0, 10)], [(5, 2), (4, 6), (3, 10), (2, 11), (1, 12), (0, 13)], [(5, 5), (4, 9), (3, 13), (2, 14), (1, 15), (0, 16)], [(6, 4), (5, 8), (4, 12), (3, 16), (2, 17), (1, 18), (0, 19)], [(7, 3), (6, 9), (5, 14), (4, 17), (3, 19), (2, 20), (1, 21), (0, 22)], [(8, 11), (7, 12), (6, 15), (5, 23), (4, 24), (3, 25), (2, 26), (1, 27), (0, 28)], [(11, 8), (10, 9), (9, 10), (8, 20), (7, 21), (6, 22), (5, 32), (4, 33), (3, 34), (2, 35), (1, 36), (0, 37)], [(11, 17), (10, 18), (9, 19), (8, 29), (7, 30), (6, 32), (5, 41), (4, 42), (3, 43), (2, 44), (1, 45), (0, 46)]]
def nwBq : FrT := [[], [], [], [], [], [], [], [(1, 3), (0, 4)], [(1, 6), (0, 7)], [(2, 6), (1, 9), (0, 10)], [(3, 6), (2, 12), (0, 14)], [(4, 10), (3, 15), (2, 18), (0, 20)], [(6, 12), (4, 22), (3, 24), (0, 27)], [(9, 9), (8, 18), (6, 30), (4, 34), (0, 38)], [(12, 24), (9, 36), (6, 48), (0, 54)]]
def nwVq : FrT := [[], [], [], [], [], [], [], [], [(2, 3), (1, 4), (0, 5)], [(2, 6), (1, 7), (0, 8)], [(3, 6), (2, 9), (1, 10), (0, 11)], [(4, 6), (3, 12), (2, 13), (1, 14), (0, 15)], [(5, 10), (4, 15), (3, 18), (2, 19), (1, 20), (0, 21)], [(7, 12), (6, 13), (5, 22), (4, 24), (3, 25), (1, 27), (0, 28)], [(10, 9), (9, 18), (8, 19), (7, 30), (6, 31), (5, 34), (4, 35), (1, 38), (0, 39)]]
def nwYq : FrT := [[], [], [], [], [], [], [], [], [], [(3, 3), (2, 4), (1, 5), (0, 6)], [(3, 6), (2, 7), (1, 8), (0, 9)], [(4, 6), (3, 9), (2, 10), (1, 11), (0, 12)], [(5, 6), (4, 12), (3, 13), (2, 14), (1, 15), (0, 16)], [(6, 10), (5, 15), (4, 18), (3, 19), (2, 20), (1, 21), (0, 22)], [(8, 12), (7, 13), (6, 22), (5, 24), (4, 25), (3, 26), (2, 27), (1, 28), (0, 29)]]
def nCWq : List (Nat × Nat) := [(12, 22), (9, 34), (6, 46), (0, 52)]
theorem nK2cq : (List.range 12).all (fun i => (List.range (12 - i)).all (fun j => hpn 1 0 (frg nNLq (i + 1)) (frg nAq (j + 1)) (frg nK2q (i + j + 3)))) = true := by decide +kernel
theorem nNLcq : (List.range 13).all (fun n => nsu (frg nAq (n + 2)) (frg nNLq (n + 2)) 0) = true := by decide +kernel
theorem nNLdq : dom 0 1 (frg nNLq 1) = true := by decide +kernel
theorem n2cq : nfcp nAq n2Bq nUq n2Vq nXq n2Yq 1 1 1 0 1 3 2 1 = true := by decide +kernel
theorem nvcq : nfcp nAq nvBq nUq nvVq nXq nvYq 1 1 1 0 1 3 2 1 = true := by decide +kernel
theorem nwcq : nfcp nAq nwBq nUq nwVq nXq nwYq 1 1 1 0 1 3 2 1 = true := by decide +kernel
theorem n2dq : (List.range 12).all (fun n => hpn 1 0 [(0, 1)] (frg nK2q (n + 1)) (frg n2Bq (n + 3))) = true := by decide +kernel
theorem nvdq : hpn 1 0 [(0, 1)] [(1, 0)] (frg nvBq 3) = true := by decide +kernel
theorem nwdq : (List.range 12).all (fun i => (List.range (12 - i)).all (fun j => hpn 1 0 (frg nK2q (i + 1)) (frg nvBq (j + 1)) (frg nwBq (i + j + 3)))) = true := by decide +kernel
theorem nCdq : (List.range 12).all (fun i => (List.range (12 - i)).all (fun j => hpn 1 0 (frg nNLq (i + 1)) (frg n2Bq (j + 1)) nCWq && hpn 1 0 (frg nNLq (i + 1)) (frg nwBq (j + 1)) nCWq)) = true := by decide +kernel
section PmNlq
variable {d : Nat} {a b c e t : Ty}
theorem nxaq (o : ok d t = true) (hk : (flat t).length ≤ 14) : ∃ p ∈ frg nAq (flat t).length, XFm 1 (ngc) 1 0 d t p.1 p.2 := (nf_form (t0 := 1) (n1 := ngc) (s2 := 1) (hv := 0) nfq_ok (by decide) tbsq.2.2.2.1 tbsq.2.2.2.2.1 _ t d (Nat.le_refl _) o hk).1
theorem nhdq {L : List (Nat × Nat)} {P Q : List (Nat × Nat)} (h : hpn 1 0 P Q L = true) (ha : ∃ p ∈ P, XFm 1 (ngc) 1 0 d a p.1 p.2) (hc : ∃ q ∈ Q, XFm 1 (ngc) 1 0 (d + 1) c q.1 q.2) : ∃ v ∈ L, XFm 1 (ngc) 1 0 d (tAll a c) v.1 v.2 := by
  obtain ⟨p, hp, fp⟩ := ha
  obtain ⟨q, hq, fq⟩ := hc
  obtain ⟨u, hu, g⟩ := XFm_all fp fq
  obtain ⟨w, hw, g1, g2⟩ := hsp_dom (hpn_get h hp hq) hu
  exact ⟨w, hw, g.mono g1 g2⟩
theorem nnlq (o : ok d t = true) (h : hd t ≠ 0 ∧ hd t < 16) (hk : (flat t).length ≤ 14) : ∃ p ∈ frg nNLq (flat t).length, XFm 1 (ngc) 1 0 d t p.1 p.2 := by
  have big : 2 ≤ (flat t).length → ∃ p ∈ frg nNLq (flat t).length, XFm 1 (ngc) 1 0 d t p.1 p.2 := by
    intro h2
    obtain ⟨p, hp, fp⟩ := nxaq o hk
    have q := rng_all nNLcq (i := (flat t).length - 2) (by omega)
    rw [show (flat t).length - 2 + 2 = (flat t).length by omega] at q
    obtain ⟨v, hv, g1, g2⟩ := dom_ex (nsu_get q hp)
    exact ⟨v, hv, fp.mono g1 (by omega)⟩
  rcases ok_cases o with rfl | ⟨j, hj, rfl⟩ | ⟨a, c, rfl, ha, hb⟩ | ⟨a, c, rfl, ha, hb⟩ | ⟨m, x, y, z, hm, rfl, h0, h1, h2⟩
  · exact absurd rfl h.1
  · have := h.2; rw [hd_var] at this; omega
  · refine big ?_
    have := flat_pos ha
    rw [flat_fun, List.length_cons, List.length_append]; omega
  · refine big ?_
    have := flat_pos ha
    rw [flat_all, List.length_cons, List.length_append]; omega
  · rcases nf_rec (t0 := 1) (n1 := ngc) (s2 := 1) (hv := 0) nfq_ok tbsq.2.2.2.2.1 hm h0 h1 h2 hk (fun q oq hq => nf_form (t0 := 1) (n1 := ngc) (s2 := 1) (hv := 0) nfq_ok (by decide) tbsq.2.2.2.1 tbsq.2.2.2.2.1 _ q d (Nat.le_refl _) oq (by omega)) with ⟨-, g, e, -⟩ | ⟨n, en, n1', -⟩
    · obtain ⟨v, hv, g1, g2⟩ := dom_ex nNLdq
      rw [e]
      exact ⟨v, hv, g.mono g1 g2⟩
    · exact big (by omega)
theorem nk2q (o : ok d t = true) (h : k2n t = true) (hk : (flat t).length ≤ 14) : ∃ p ∈ frg nK2q (flat t).length, XFm 1 (ngc) 1 0 d t p.1 p.2 := by
  obtain ⟨a, c, rfl, oa, oc, h0, h1⟩ := k2n_is o h
  have el : (flat (tAll a c)).length = (flat a).length + (flat c).length + 1 := by rw [flat_all, List.length_cons, List.length_append]
  rw [el] at hk ⊢
  have pa := flat_pos oa
  have pc := flat_pos oc
  have q := rng_all (rng_all nK2cq (i := (flat a).length - 1) (by omega)) (i := (flat c).length - 1) (by omega)
  rw [show (flat a).length - 1 + 1 = (flat a).length by omega, show (flat c).length - 1 + 1 = (flat c).length by omega, show (flat a).length - 1 + ((flat c).length - 1) + 3 = (flat a).length + (flat c).length + 1 by omega] at q
  exact nhdq q (nnlq oa ⟨h0, h1⟩ (by omega)) (nxaq oc (by omega))
theorem ntpq : ∃ p ∈ [((0 : Nat), (1 : Nat))], XFm 1 (ngc) 1 0 d tTop p.1 p.2 := ⟨(0, 1), by simp, XFm_top.mono (Nat.le_refl _) (by decide)⟩
theorem np2q (o : ok d t = true) (hk : (flat t).length ≤ 14) (h : php rho2 t = true) : ∃ p ∈ frg n2Bq (flat t).length, XFm 1 (ngc) 1 0 d t p.1 p.2 := by
  refine (nq_form (ρ := rho2) (t0 := 1) (n1 := ngc) (s2 := 1) (hv := 0) n2cq (by decide) (fun a c d oa oc hk hr => ?_) tbsq.2.2.2.1 tbsq.2.2.2.2.1 _ t d (Nat.le_refl _) o hk).2 h
  unfold rho2 at hr
  rw [Bool.and_eq_true, decide_eq_true_iff] at hr
  have ea := top_of oa hr.1
  subst ea
  have el : (flat (tAll tTop c)).length = (flat c).length + 2 := by
    rw [flat_all, List.length_cons, List.length_append]
    have : (flat tTop).length = 1 := rfl
    omega
  rw [el] at hk ⊢
  have pc := flat_pos oc
  have q := rng_all n2dq (i := (flat c).length - 1) (by omega)
  rw [show (flat c).length - 1 + 1 = (flat c).length by omega, show (flat c).length - 1 + 3 = (flat c).length + 2 by omega] at q
  exact nhdq q ntpq (nk2q oc hr.2 (by omega))
theorem npvq (o : ok d t = true) (hk : (flat t).length ≤ 14) (h : php rhov t = true) : ∃ p ∈ frg nvBq (flat t).length, XFm 1 (ngc) 1 0 d t p.1 p.2 := by
  refine (nq_form (ρ := rhov) (t0 := 1) (n1 := ngc) (s2 := 1) (hv := 0) nvcq (by decide) (fun a c d oa oc hk hr => ?_) tbsq.2.2.2.1 tbsq.2.2.2.2.1 _ t d (Nat.le_refl _) o hk).2 h
  unfold rhov at hr
  rw [Bool.and_eq_true, decide_eq_true_iff, decide_eq_true_iff] at hr
  have ea := top_of oa hr.1
  subst ea
  obtain ⟨j, hj, rfl⟩ := hd_is_var oc hr.2
  exact nhdq nvdq ntpq ⟨(1, 0), by simp, XFm_var j⟩
theorem npwq (o : ok d t = true) (hk : (flat t).length ≤ 14) (h : php rhow t = true) : ∃ p ∈ frg nwBq (flat t).length, XFm 1 (ngc) 1 0 d t p.1 p.2 := by
  refine (nq_form (ρ := rhow) (t0 := 1) (n1 := ngc) (s2 := 1) (hv := 0) nwcq (by decide) (fun a c d oa oc hk hr => ?_) tbsq.2.2.2.1 tbsq.2.2.2.2.1 _ t d (Nat.le_refl _) o hk).2 h
  unfold rhow at hr
  rw [Bool.and_eq_true] at hr
  have el : (flat (tAll a c)).length = (flat a).length + (flat c).length + 1 := by rw [flat_all, List.length_cons, List.length_append]
  rw [el] at hk ⊢
  have pa := flat_pos oa
  have pc := flat_pos oc
  have q := rng_all (rng_all nwdq (i := (flat a).length - 1) (by omega)) (i := (flat c).length - 1) (by omega)
  rw [show (flat a).length - 1 + 1 = (flat a).length by omega, show (flat c).length - 1 + 1 = (flat c).length by omega, show (flat a).length - 1 + ((flat c).length - 1) + 3 = (flat a).length + (flat c).length + 1 by omega] at q
  exact nhdq q (nk2q oa hr.1 (by omega)) (npvq oc (by omega) hr.2)
theorem nC_fq (ob : ok d b = true) (oe : ok (d + 1) e = true) (hb : hd b ≠ 0 ∧ hd b < 16) (hk : (flat (tAll b e)).length ≤ 14) (h : bdC b e = true) : ∃ v ∈ nCWq, XFm 1 (ngc) 1 0 d (tAll b e) v.1 v.2 := by
  have el : (flat (tAll b e)).length = (flat b).length + (flat e).length + 1 := by rw [flat_all, List.length_cons, List.length_append]
  rw [el] at hk
  have pa := flat_pos ob
  have pc := flat_pos oe
  have q := rng_all (rng_all nCdq (i := (flat b).length - 1) (by omega)) (i := (flat e).length - 1) (by omega)
  rw [show (flat b).length - 1 + 1 = (flat b).length by omega, show (flat e).length - 1 + 1 = (flat e).length by omega, Bool.and_eq_true] at q
  have nb := nnlq ob hb (by omega)
  rcases bdC_or oe h with h | h
  · exact nhdq q.1 nb (np2q oe (by omega) h)
  · exact nhdq q.2 nb (npwq oe (by omega) h)
end PmNlq
