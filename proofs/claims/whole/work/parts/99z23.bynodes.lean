/-! EXACT FORMS BY NODES: any type, types with a scheme of bound Top inside; at most 14 nodes. -/
def prn (P Q L : List (Nat × Nat)) (c : Nat) : Bool := P.all (fun p => Q.all (fun q => dom (p.1 + q.1) (c + (p.2 + q.2)) L))
def hpn (s2 hv : Nat) (P Q L : List (Nat × Nat)) : Bool := P.all (fun p => Q.all (fun q => hsp s2 hv p q L))
theorem prn_get {P Q L : List (Nat × Nat)} {c : Nat} (h : prn P Q L c = true) {p q : Nat × Nat} (hp : p ∈ P) (hq : q ∈ Q) : dom (p.1 + q.1) (c + (p.2 + q.2)) L = true := List.all_eq_true.mp (List.all_eq_true.mp h p hp) q hq
theorem hpn_get {s2 hv : Nat} {P Q L : List (Nat × Nat)} (h : hpn s2 hv P Q L = true) {p q : Nat × Nat} (hp : p ∈ P) (hq : q ∈ Q) : hsp s2 hv p q L = true := List.all_eq_true.mp (List.all_eq_true.mp h p hp) q hq
/-- one step of the tables: two parts of i and j nodes -/
def nst (A B U V X Y : FrT) (fn s2 hv i j : Nat) : Bool :=
  ((prn (frg A i) (frg A j) (frg A (i + j + 1)) fn && (prn (frg B i) (frg A j) (frg B (i + j + 1)) fn && prn (frg A i) (frg B j) (frg B (i + j + 1)) fn)) &&
  (hpn s2 hv (frg A i) (frg A j) (frg A (i + j + 1)) && (hpn s2 hv (frg B i) (frg A j) (frg B (i + j + 1)) && hpn s2 hv (frg A i) (frg B j) (frg B (i + j + 1))))) &&
  ((prn (frg A i) (frg A j) (frg U (i + j)) 0 && (prn (frg B i) (frg A j) (frg V (i + j)) 0 && prn (frg A i) (frg B j) (frg V (i + j)) 0)) &&
  (prn (frg A i) (frg U j) (frg X (i + j)) 0 && (prn (frg B i) (frg U j) (frg Y (i + j)) 0 && prn (frg A i) (frg V j) (frg Y (i + j)) 0)))
def nsu (L M : List (Nat × Nat)) (r : Nat) : Bool := L.all (fun p => dom p.1 (r + p.2) M)
theorem nsu_get {L M : List (Nat × Nat)} {r : Nat} (h : nsu L M r = true) {p : Nat × Nat} (hp : p ∈ L) : dom p.1 (r + p.2) M = true := List.all_eq_true.mp h p hp
/-- one part of n nodes, or a row of parts -/
def nso (A B U V X Y : FrT) (s2 hv r1 r2 r3 n : Nat) : Bool :=
  ((nsu (frg A n) (frg A (n + 1)) r1 && (nsu (frg U n) (frg A (n + 1)) r2 && nsu (frg X n) (frg A (n + 1)) r3)) &&
  (nsu (frg B n) (frg B (n + 1)) r1 && (nsu (frg V n) (frg B (n + 1)) r2 && nsu (frg Y n) (frg B (n + 1)) r3))) &&
  (Nat.ble 13 n || hpn s2 hv [(0, 1)] (frg A n) (frg B (n + 2)))
def nfc (A B U V X Y : FrT) (t0 fn s2 hv r0 r1 r2 r3 : Nat) : Bool :=
  (dom 0 t0 (frg A 1) && (dom 1 0 (frg A 1) && dom 0 r0 (frg A 1))) &&
  ((List.range 13).all (fun n => nso A B U V X Y s2 hv r1 r2 r3 (n + 1)) &&
  (List.range 12).all (fun i => (List.range (12 - i)).all (fun j => nst A B U V X Y fn s2 hv (i + 1) (j + 1))))
/-- the same for functions and records alone: all lengths together -/
def nwc (A B V Y : FrT) (W : List (Nat × Nat)) (fn r1 r2 r3 : Nat) : Bool :=
  (List.range 13).all (fun n => nsu (frg B (n + 1)) W r1 && (nsu (frg V (n + 1)) W r2 && nsu (frg Y (n + 1)) W r3)) &&
  (List.range 12).all (fun i => (List.range (12 - i)).all (fun j => prn (frg B (i + 1)) (frg A (j + 1)) W fn && prn (frg A (i + 1)) (frg B (j + 1)) W fn))
section PmZl
variable {A B U V X Y : FrT} {W : List (Nat × Nat)} {t0 fn s2 hv r0 r1 r2 r3 : Nat} {n1 : Nat → Nat}
theorem nfc_o (h : nfc A B U V X Y t0 fn s2 hv r0 r1 r2 r3 = true) {n : Nat} (k1 : 1 ≤ n) (k2 : n ≤ 13) : nso A B U V X Y s2 hv r1 r2 r3 n = true := by
  unfold nfc at h
  rw [Bool.and_eq_true] at h
  have h2 := h.2
  rw [Bool.and_eq_true] at h2
  have q := rng_all h2.1 (i := n - 1) (by omega)
  rw [show n - 1 + 1 = n by omega] at q
  exact q
theorem nfc_p (h : nfc A B U V X Y t0 fn s2 hv r0 r1 r2 r3 = true) {i j : Nat} (i1 : 1 ≤ i) (j1 : 1 ≤ j) (k2 : i + j ≤ 13) : nst A B U V X Y fn s2 hv i j = true := by
  unfold nfc at h
  rw [Bool.and_eq_true] at h
  have h2 := h.2
  rw [Bool.and_eq_true] at h2
  have q := rng_all (rng_all h2.2 (i := i - 1) (by omega)) (i := j - 1) (by omega)
  rw [show i - 1 + 1 = i by omega, show j - 1 + 1 = j by omega] at q
  exact q
/-- the fields of a record, with their nodes -/
theorem rec_nodes {K : Nat → Bool} {d m : Nat} {x y z : Ty} (o0 : okl d m 0 x) (o1 : okl d m 1 y) (o2 : okl d m 2 z) : ∃ l : List Ty, (∀ q ∈ l, ok d q = true) ∧ l.length = nlb m ∧ (l.map (xt d)).sum = xt d (tRec m x y z) ∧ n1 (8 + m) + (l.map (xa t0 n1 s2 hv d)).sum = xa t0 n1 s2 hv d (tRec m x y z) ∧ (l.map (fun q => (flat q).length)).sum + 1 = (flat (tRec m x y z)).length ∧ l.any (phf K) = phf K (tRec m x y z) := by
  obtain ⟨a0, b0, c0, e0, f0, g0⟩ := fld_is (K := K) (t0 := t0) (n1 := n1) (s2 := s2) (hv := hv) o0
  obtain ⟨a1, b1, c1, e1, f1, g1⟩ := fld_is (K := K) (t0 := t0) (n1 := n1) (s2 := s2) (hv := hv) o1
  obtain ⟨a2, b2, c2, e2, f2, g2⟩ := fld_is (K := K) (t0 := t0) (n1 := n1) (s2 := s2) (hv := hv) o2
  have fl : ∀ (i : Nat) (p : Ty), okl d m i p → ((fld m i p).map (fun q => (flat q).length)).sum = (flat p).length := by
    intro i p o
    unfold okl at o
    unfold fld
    by_cases hb : bit m i = true
    · rw [if_pos hb]; simp
    · rw [if_neg hb] at o
      rw [if_neg hb, o]; rfl
  refine ⟨fld m 0 x ++ (fld m 1 y ++ fld m 2 z), fun q hq => ?_, ?_, ?_, ?_, ?_, ?_⟩
  · rcases List.mem_append.mp hq with h | h
    · exact (a0 q h).1
    · rcases List.mem_append.mp h with h | h
      · exact (a1 q h).1
      · exact (a2 q h).1
  · rw [List.length_append, List.length_append, b0, b1, b2]
    unfold nlb
    omega
  · rw [List.map_append, List.map_append, List.sum_append, List.sum_append, c0, c1, c2, xt_rec]
  · rw [List.map_append, List.map_append, List.sum_append, List.sum_append, e0, e1, e2, xa_rec]
  · rw [List.map_append, List.map_append, List.sum_append, List.sum_append, fl 0 x o0, fl 1 y o1, fl 2 z o2, flat_rec, List.length_cons, List.length_append, List.length_append]
  · rw [List.any_append, List.any_append, g0, g1, g2, phf_rec]
/-- what is asked of a type -/
def NFp (A B : FrT) (t0 : Nat) (n1 : Nat → Nat) (s2 hv d : Nat) (t : Ty) : Prop := (∃ p ∈ frg A (flat t).length, XFm t0 n1 s2 hv d t p.1 p.2) ∧ (phf (fun _ => true) t = true → ∃ p ∈ frg B (flat t).length, XFm t0 n1 s2 hv d t p.1 p.2)
/-- two parts, three parts -/
theorem nf_two (hc : nfc A B U V X Y t0 fn s2 hv r0 r1 r2 r3 = true) {d : Nat} {a b : Ty} (oa : ok d a = true) (ob : ok d b = true) (ia : NFp A B t0 n1 s2 hv d a) (ib : NFp A B t0 n1 s2 hv d b) (hk : (flat a).length + (flat b).length ≤ 13) : (∃ v ∈ frg U ((flat a).length + (flat b).length), xt d a + xt d b ≤ v.1 ∧ xa t0 n1 s2 hv d a + xa t0 n1 s2 hv d b ≤ v.2) ∧ (phf (fun _ => true) a = true ∨ phf (fun _ => true) b = true → ∃ v ∈ frg V ((flat a).length + (flat b).length), xt d a + xt d b ≤ v.1 ∧ xa t0 n1 s2 hv d a + xa t0 n1 s2 hv d b ≤ v.2) := by
  have st := nfc_p hc (flat_pos oa) (flat_pos ob) hk
  unfold nst at st
  simp only [Bool.and_eq_true] at st
  obtain ⟨-, ⟨s1, s2', s3⟩, -⟩ := st
  have fin : ∀ {p q : Nat × Nat} {L : List (Nat × Nat)}, XFm t0 n1 s2 hv d a p.1 p.2 → XFm t0 n1 s2 hv d b q.1 q.2 → dom (p.1 + q.1) (0 + (p.2 + q.2)) L = true → ∃ v ∈ L, xt d a + xt d b ≤ v.1 ∧ xa t0 n1 s2 hv d a + xa t0 n1 s2 hv d b ≤ v.2 := by
    intro p q L fp fq hd
    obtain ⟨v, hv', h1, h2⟩ := dom_ex hd
    exact ⟨v, hv', by have := fp.1; have := fq.1; omega, by have := fp.2; have := fq.2; omega⟩
  obtain ⟨p, hp, fp⟩ := ia.1
  obtain ⟨q, hq, fq⟩ := ib.1
  refine ⟨fin fp fq (prn_get s1 hp hq), fun h => ?_⟩
  rcases h with h | h
  · obtain ⟨p', hp', fp'⟩ := ia.2 h
    exact fin fp' fq (prn_get s2' hp' hq)
  · obtain ⟨q', hq', fq'⟩ := ib.2 h
    exact fin fp fq' (prn_get s3 hp hq')
theorem nf_three (hc : nfc A B U V X Y t0 fn s2 hv r0 r1 r2 r3 = true) {d : Nat} {a b c : Ty} (oa : ok d a = true) (ob : ok d b = true) (oc : ok d c = true) (ia : NFp A B t0 n1 s2 hv d a) (ib : NFp A B t0 n1 s2 hv d b) (ic : NFp A B t0 n1 s2 hv d c) (hk : (flat a).length + ((flat b).length + (flat c).length) ≤ 13) : (∃ v ∈ frg X ((flat a).length + ((flat b).length + (flat c).length)), xt d a + (xt d b + xt d c) ≤ v.1 ∧ xa t0 n1 s2 hv d a + (xa t0 n1 s2 hv d b + xa t0 n1 s2 hv d c) ≤ v.2) ∧ (phf (fun _ => true) a = true ∨ phf (fun _ => true) b = true ∨ phf (fun _ => true) c = true → ∃ v ∈ frg Y ((flat a).length + ((flat b).length + (flat c).length)), xt d a + (xt d b + xt d c) ≤ v.1 ∧ xa t0 n1 s2 hv d a + (xa t0 n1 s2 hv d b + xa t0 n1 s2 hv d c) ≤ v.2) := by
  have pa := flat_pos oa
  have pb := flat_pos ob
  have pc := flat_pos oc
  have st := nfc_p hc pa (show 1 ≤ (flat b).length + (flat c).length by omega) hk
  unfold nst at st
  simp only [Bool.and_eq_true] at st
  obtain ⟨-, -, s1, s2', s3⟩ := st
  obtain ⟨w1, w2⟩ := nf_two hc ob oc ib ic (by omega)
  have fin : ∀ {p q : Nat × Nat} {L : List (Nat × Nat)}, XFm t0 n1 s2 hv d a p.1 p.2 → xt d b + xt d c ≤ q.1 ∧ xa t0 n1 s2 hv d b + xa t0 n1 s2 hv d c ≤ q.2 → dom (p.1 + q.1) (0 + (p.2 + q.2)) L = true → ∃ v ∈ L, xt d a + (xt d b + xt d c) ≤ v.1 ∧ xa t0 n1 s2 hv d a + (xa t0 n1 s2 hv d b + xa t0 n1 s2 hv d c) ≤ v.2 := by
    intro p q L fp fq hd
    obtain ⟨v, hv', h1, h2⟩ := dom_ex hd
    exact ⟨v, hv', by have := fp.1; have := fq.1; omega, by have := fp.2; have := fq.2; omega⟩
  obtain ⟨p, hp, fp⟩ := ia.1
  obtain ⟨q, hq, fq⟩ := w1
  refine ⟨fin fp fq (prn_get s1 hp hq), fun h => ?_⟩
  rcases h with h | h
  · obtain ⟨p', hp', fp'⟩ := ia.2 h
    exact fin fp' fq (prn_get s2' hp' hq)
  · obtain ⟨q', hq', fq'⟩ := w2 h
    exact fin fp fq' (prn_get s3 hp hq')
/-- a record, by what its fields are -/
theorem nf_rec (hc : nfc A B U V X Y t0 fn s2 hv r0 r1 r2 r3 = true) (hr : ∀ m, m < 8 → n1 (8 + m) ≤ (if nlb m = 0 then r0 else if nlb m = 1 then r1 else if nlb m = 2 then r2 else r3)) {d m : Nat} {x y z : Ty} (hm : m < 8) (o0 : okl d m 0 x) (o1 : okl d m 1 y) (o2 : okl d m 2 z) (hk : (flat (tRec m x y z)).length ≤ 14) (ih : ∀ q, ok d q = true → (flat q).length < (flat (tRec m x y z)).length → NFp A B t0 n1 s2 hv d q) : (nlb m = 0 ∧ XFm t0 n1 s2 hv d (tRec m x y z) 0 r0 ∧ (flat (tRec m x y z)).length = 1 ∧ phf (fun _ => true) (tRec m x y z) = false) ∨ ∃ n, n + 1 = (flat (tRec m x y z)).length ∧ 1 ≤ n ∧ ∃ (r : Nat) (L M : FrT), ((r = r1 ∧ L = A ∧ M = B) ∨ (r = r2 ∧ L = U ∧ M = V) ∨ (r = r3 ∧ L = X ∧ M = Y)) ∧ (∃ v ∈ frg L n, XFm t0 n1 s2 hv d (tRec m x y z) v.1 (r + v.2)) ∧ (phf (fun _ => true) (tRec m x y z) = true → ∃ v ∈ frg M n, XFm t0 n1 s2 hv d (tRec m x y z) v.1 (r + v.2)) := by
  obtain ⟨l, ol, ll, e1, e2, e3, e4⟩ := rec_nodes (K := fun _ => true) (t0 := t0) (s2 := s2) (hv := hv) (n1 := n1) o0 o1 o2
  have hn := hr m hm
  have n3 : nlb m ≤ 3 := by
    unfold nlb
    split <;> split <;> split <;> omega
  match l, ol, ll, e1, e2, e3, e4 with
  | [], ol, ll, e1, e2, e3, e4 =>
    left
    have ll : nlb m = 0 := ll.symm
    have e1 : 0 = xt d (tRec m x y z) := e1
    have e2 : n1 (8 + m) + 0 = xa t0 n1 s2 hv d (tRec m x y z) := e2
    have e3 : 0 + 1 = (flat (tRec m x y z)).length := e3
    rw [if_pos ll] at hn
    exact ⟨ll, ⟨by omega, by omega⟩, by omega, e4.symm⟩
  | [a], ol, ll, e1, e2, e3, e4 =>
    right
    have ll : nlb m = 1 := ll.symm
    have e1 : xt d a + 0 = xt d (tRec m x y z) := e1
    have e2 : n1 (8 + m) + (xa t0 n1 s2 hv d a + 0) = xa t0 n1 s2 hv d (tRec m x y z) := e2
    have e3 : (flat a).length + 0 + 1 = (flat (tRec m x y z)).length := e3
    have e4 : (phf (fun _ => true) a || false) = phf (fun _ => true) (tRec m x y z) := e4
    rw [Bool.or_false] at e4
    rw [if_neg (by omega), if_pos ll] at hn
    have oa := ol a (by simp)
    obtain ⟨i1, i2⟩ := ih a oa (by omega)
    refine ⟨(flat a).length, by omega, flat_pos oa, r1, A, B, Or.inl ⟨rfl, rfl, rfl⟩, ?_, fun h => ?_⟩
    · obtain ⟨v, hv', f⟩ := i1
      exact ⟨v, hv', by have := f.1; omega, by have := f.2; omega⟩
    · obtain ⟨v, hv', f⟩ := i2 (by rw [e4]; exact h)
      exact ⟨v, hv', by have := f.1; omega, by have := f.2; omega⟩
  | [a, b], ol, ll, e1, e2, e3, e4 =>
    right
    have ll : nlb m = 2 := ll.symm
    have e1 : xt d a + (xt d b + 0) = xt d (tRec m x y z) := e1
    have e2 : n1 (8 + m) + (xa t0 n1 s2 hv d a + (xa t0 n1 s2 hv d b + 0)) = xa t0 n1 s2 hv d (tRec m x y z) := e2
    have e3 : (flat a).length + ((flat b).length + 0) + 1 = (flat (tRec m x y z)).length := e3
    have e4 : (phf (fun _ => true) a || (phf (fun _ => true) b || false)) = phf (fun _ => true) (tRec m x y z) := e4
    rw [Bool.or_false] at e4
    rw [if_neg (by omega), if_neg (by omega), if_pos ll] at hn
    have oa := ol a (by simp)
    have ob := ol b (by simp)
    obtain ⟨w1, w2⟩ := nf_two hc oa ob (ih a oa (by omega)) (ih b ob (by omega)) (by omega)
    refine ⟨(flat a).length + (flat b).length, by omega, by have := flat_pos oa; omega, r2, U, V, Or.inr (Or.inl ⟨rfl, rfl, rfl⟩), ?_, fun h => ?_⟩
    · obtain ⟨v, hv', f1, f2⟩ := w1
      exact ⟨v, hv', by omega, by omega⟩
    · rw [← e4, Bool.or_eq_true] at h
      obtain ⟨v, hv', f1, f2⟩ := w2 h
      exact ⟨v, hv', by omega, by omega⟩
  | [a, b, c], ol, ll, e1, e2, e3, e4 =>
    right
    have ll : nlb m = 3 := ll.symm
    have e1 : xt d a + (xt d b + (xt d c + 0)) = xt d (tRec m x y z) := e1
    have e2 : n1 (8 + m) + (xa t0 n1 s2 hv d a + (xa t0 n1 s2 hv d b + (xa t0 n1 s2 hv d c + 0))) = xa t0 n1 s2 hv d (tRec m x y z) := e2
    have e3 : (flat a).length + ((flat b).length + ((flat c).length + 0)) + 1 = (flat (tRec m x y z)).length := e3
    have e4 : (phf (fun _ => true) a || (phf (fun _ => true) b || (phf (fun _ => true) c || false))) = phf (fun _ => true) (tRec m x y z) := e4
    rw [Bool.or_false] at e4
    rw [if_neg (by omega), if_neg (by omega), if_neg (by omega)] at hn
    have oa := ol a (by simp)
    have ob := ol b (by simp)
    have oc := ol c (by simp)
    obtain ⟨w1, w2⟩ := nf_three hc oa ob oc (ih a oa (by omega)) (ih b ob (by omega)) (ih c oc (by omega)) (by omega)
    refine ⟨(flat a).length + ((flat b).length + (flat c).length), by omega, by have := flat_pos oa; omega, r3, X, Y, Or.inr (Or.inr ⟨rfl, rfl, rfl⟩), ?_, fun h => ?_⟩
    · obtain ⟨v, hv', f1, f2⟩ := w1
      exact ⟨v, hv', by omega, by omega⟩
    · rw [← e4, Bool.or_eq_true, Bool.or_eq_true] at h
      obtain ⟨v, hv', f1, f2⟩ := w2 h
      exact ⟨v, hv', by omega, by omega⟩
  | _ :: _ :: _ :: _ :: _, ol, ll, e1, e2, e3, e4 =>
    exfalso
    rw [List.length_cons, List.length_cons, List.length_cons, List.length_cons] at ll
    omega
/-- every type of at most 14 nodes -/
theorem nf_form (hc : nfc A B U V X Y t0 fn s2 hv r0 r1 r2 r3 = true) (ht0 : t0 ≤ 1) (hf1 : n1 1 ≤ fn) (hr : ∀ m, m < 8 → n1 (8 + m) ≤ (if nlb m = 0 then r0 else if nlb m = 1 then r1 else if nlb m = 2 then r2 else r3)) : ∀ (f : Nat) (t : Ty) (d : Nat), (flat t).length ≤ f → ok d t = true → (flat t).length ≤ 14 → NFp A B t0 n1 s2 hv d t
  | 0, t, d, hf, o, _ => by have := flat_pos o; omega
  | f + 1, t, d, hf, o, hk => by
    have fin : ∀ {l a : Nat} {t : Ty} {L : List (Nat × Nat)}, XFm t0 n1 s2 hv d t l a → dom l a L = true → ∃ p ∈ L, XFm t0 n1 s2 hv d t p.1 p.2 := by
      intro l a t L g hd
      obtain ⟨p, hp, h1, h2⟩ := dom_ex hd
      exact ⟨p, hp, g.mono h1 h2⟩
    have ih := fun t d => nf_form hc ht0 hf1 hr f t d
    have z0 := hc
    unfold nfc at z0
    simp only [Bool.and_eq_true] at z0
    obtain ⟨⟨z1, z2, z3⟩, -⟩ := z0
    rcases ok_cases o with rfl | ⟨j, hj, rfl⟩ | ⟨a, c, rfl, ha, hb⟩ | ⟨a, c, rfl, ha, hb⟩ | ⟨m, x, y, z, hm, rfl, h0, h1, h2⟩
    · exact ⟨fin XFm_top z1, fun h => by rw [phf_top] at h; cases h⟩
    · exact ⟨fin (XFm_var j) z2, fun h => by rw [phf_var] at h; cases h⟩
    · have el : (flat (tFun a c)).length = (flat a).length + (flat c).length + 1 := by rw [flat_fun, List.length_cons, List.length_append]
      rw [el] at hf hk
      have st := nfc_p hc (flat_pos ha) (flat_pos hb) (by omega)
      unfold nst at st
      simp only [Bool.and_eq_true] at st
      obtain ⟨⟨⟨s1, s2', s3⟩, -⟩, -⟩ := st
      obtain ⟨i1, i2⟩ := ih a d (by omega) ha (by omega)
      obtain ⟨k1, k2⟩ := ih c d (by omega) hb (by omega)
      have go : ∀ {p q : Nat × Nat} {L : List (Nat × Nat)}, XFm t0 n1 s2 hv d a p.1 p.2 → XFm t0 n1 s2 hv d c q.1 q.2 → dom (p.1 + q.1) (fn + (p.2 + q.2)) L = true → ∃ v ∈ L, XFm t0 n1 s2 hv d (tFun a c) v.1 v.2 := fun fp fq hd => fin ((XFm_fun fp fq).mono (Nat.le_refl _) (by omega)) hd
      unfold NFp
      rw [el]
      obtain ⟨p, hp, fp⟩ := i1
      obtain ⟨q, hq, fq⟩ := k1
      refine ⟨go fp fq (prn_get s1 hp hq), fun h => ?_⟩
      rw [phf_fun, Bool.or_eq_true] at h
      rcases h with h | h
      · obtain ⟨p', hp', fp'⟩ := i2 h
        exact go fp' fq (prn_get s2' hp' hq)
      · obtain ⟨q', hq', fq'⟩ := k2 h
        exact go fp fq' (prn_get s3 hp hq')
    · have el : (flat (tAll a c)).length = (flat a).length + (flat c).length + 1 := by rw [flat_all, List.length_cons, List.length_append]
      rw [el] at hf hk
      have pa := flat_pos ha
      have pc := flat_pos hb
      have st := nfc_p hc pa pc (by omega)
      unfold nst at st
      simp only [Bool.and_eq_true] at st
      obtain ⟨⟨-, s1, s2', s3⟩, -⟩ := st
      obtain ⟨i1, i2⟩ := ih a d (by omega) ha (by omega)
      obtain ⟨k1, k2⟩ := ih c (d + 1) (by omega) hb (by omega)
      have go : ∀ {p q : Nat × Nat} {L : List (Nat × Nat)}, XFm t0 n1 s2 hv d a p.1 p.2 → XFm t0 n1 s2 hv (d + 1) c q.1 q.2 → hsp s2 hv p q L = true → ∃ v ∈ L, XFm t0 n1 s2 hv d (tAll a c) v.1 v.2 := by
        intro p q L fp fq hd
        obtain ⟨u, hu, g⟩ := XFm_all fp fq
        obtain ⟨w, hw, g1, g2⟩ := hsp_dom hd hu
        exact ⟨w, hw, g.mono g1 g2⟩
      unfold NFp
      rw [el]
      obtain ⟨p, hp, fp⟩ := i1
      obtain ⟨q, hq, fq⟩ := k1
      refine ⟨go fp fq (hpn_get s1 hp hq), fun h => ?_⟩
      rw [phf_all, Bool.or_eq_true, Bool.or_eq_true] at h
      rcases h with h | h | h
      · rw [Bool.and_eq_true, decide_eq_true_iff] at h
        have ea : a = tTop := by
          rcases ok_cases ha with e | ⟨j, hj, rfl⟩ | ⟨x, y, rfl, _, _⟩ | ⟨x, y, rfl, _, _⟩ | ⟨m, x, y, z, hm, rfl, _, _, _⟩
          · exact e
          · have := h.1; rw [hd_var] at this; omega
          · have := h.1; rw [hd_fun] at this; omega
          · have := h.1; rw [hd_all] at this; omega
          · have := h.1; rw [hd_rec] at this; omega
        subst ea
        have so := nfc_o hc (n := (flat c).length) pc (by omega)
        unfold nso at so
        simp only [Bool.and_eq_true, Bool.or_eq_true] at so
        obtain ⟨-, so⟩ := so
        have l1 : (flat tTop).length = 1 := rfl
        rw [l1] at hk ⊢
        rcases so with so | so
        · have := Nat.le_of_ble_eq_true so
          omega
        · have g := go (p := (0, 1)) ((XFm_top (t0 := t0) (n1 := n1) (s2 := s2) (hv := hv) (d := d)).mono (Nat.le_refl _) ht0) fq (hpn_get so (by simp) hq)
          rw [show 1 + (flat c).length + 1 = (flat c).length + 2 by omega]
          exact g
      · obtain ⟨p', hp', fp'⟩ := i2 h
        exact go fp' fq (hpn_get s2' hp' hq)
      · obtain ⟨q', hq', fq'⟩ := k2 h
        exact go fp fq' (hpn_get s3 hp hq')
    · have ir : ∀ q, ok d q = true → (flat q).length < (flat (tRec m x y z)).length → NFp A B t0 n1 s2 hv d q := fun q oq hq => ih q d (by omega) oq (by omega)
      rcases nf_rec hc hr hm h0 h1 h2 hk ir with ⟨-, g, e, e'⟩ | ⟨n, en, n1', r, L, M, hL, g1, g2⟩
      · unfold NFp
        rw [e]
        exact ⟨fin g z3, fun h => by rw [e'] at h; cases h⟩
      · unfold NFp
        rw [← en]
        have so := nfc_o hc (n := n) n1' (by omega)
        unfold nso at so
        simp only [Bool.and_eq_true] at so
        obtain ⟨⟨⟨u1, u2, u3⟩, v1, v2, v3⟩, -⟩ := so
        rcases hL with ⟨rfl, rfl, rfl⟩ | ⟨rfl, rfl, rfl⟩ | ⟨rfl, rfl, rfl⟩
        · obtain ⟨v, hv', f'⟩ := g1
          refine ⟨fin f' (nsu_get u1 hv'), fun h => ?_⟩
          obtain ⟨v, hv', f'⟩ := g2 h
          exact fin f' (nsu_get v1 hv')
        · obtain ⟨v, hv', f'⟩ := g1
          refine ⟨fin f' (nsu_get u2 hv'), fun h => ?_⟩
          obtain ⟨v, hv', f'⟩ := g2 h
          exact fin f' (nsu_get v2 hv')
        · obtain ⟨v, hv', f'⟩ := g1
          refine ⟨fin f' (nsu_get u3 hv'), fun h => ?_⟩
          obtain ⟨v, hv', f'⟩ := g2 h
          exact fin f' (nsu_get v3 hv')
/-- functions and records with such a scheme inside -/
theorem nw_form (hc : nfc A B U V X Y t0 fn s2 hv r0 r1 r2 r3 = true) (hw : nwc A B V Y W fn r1 r2 r3 = true) (ht0 : t0 ≤ 1) (hf1 : n1 1 ≤ fn) (hr : ∀ m, m < 8 → n1 (8 + m) ≤ (if nlb m = 0 then r0 else if nlb m = 1 then r1 else if nlb m = 2 then r2 else r3)) {t : Ty} {d : Nat} (o : ok d t = true) (hk : (flat t).length ≤ 14) (hp : phf (fun _ => true) t = true) (kd : kdt t = 1 ∨ kdt t = 4) : ∃ v ∈ W, XFm t0 n1 s2 hv d t v.1 v.2 := by
  have fin : ∀ {l a : Nat} {t : Ty} {L : List (Nat × Nat)}, XFm t0 n1 s2 hv d t l a → dom l a L = true → ∃ p ∈ L, XFm t0 n1 s2 hv d t p.1 p.2 := by
    intro l a t L g hd
    obtain ⟨p, hp, h1, h2⟩ := dom_ex hd
    exact ⟨p, hp, g.mono h1 h2⟩
  have all := fun t' (o' : ok d t' = true) (hk' : (flat t').length ≤ 14) => nf_form hc ht0 hf1 hr _ t' d (Nat.le_refl _) o' hk'
  unfold nwc at hw
  rw [Bool.and_eq_true] at hw
  rcases ok_cases o with rfl | ⟨j, hj, rfl⟩ | ⟨a, c, rfl, ha, hb⟩ | ⟨a, c, rfl, ha, hb⟩ | ⟨m, x, y, z, hm, rfl, h0, h1, h2⟩
  · rw [phf_top] at hp; cases hp
  · rw [phf_var] at hp; cases hp
  · have el : (flat (tFun a c)).length = (flat a).length + (flat c).length + 1 := by rw [flat_fun, List.length_cons, List.length_append]
    rw [el] at hk
    have pa := flat_pos ha
    have pc := flat_pos hb
    have q := rng_all (rng_all hw.2 (i := (flat a).length - 1) (by omega)) (i := (flat c).length - 1) (by omega)
    rw [show (flat a).length - 1 + 1 = (flat a).length by omega, show (flat c).length - 1 + 1 = (flat c).length by omega, Bool.and_eq_true] at q
    obtain ⟨i1, i2⟩ := all a ha (by omega)
    obtain ⟨k1, k2⟩ := all c hb (by omega)
    rw [phf_fun, Bool.or_eq_true] at hp
    rcases hp with h | h
    · obtain ⟨p', hp', fp'⟩ := i2 h
      obtain ⟨q', hq', fq'⟩ := k1
      exact fin ((XFm_fun fp' fq').mono (Nat.le_refl _) (by omega)) (prn_get q.1 hp' hq')
    · obtain ⟨p', hp', fp'⟩ := i1
      obtain ⟨q', hq', fq'⟩ := k2 h
      exact fin ((XFm_fun fp' fq').mono (Nat.le_refl _) (by omega)) (prn_get q.2 hp' hq')
  · exfalso
    unfold kdt at kd
    rw [hd_all, if_neg (by decide), if_pos rfl] at kd
    split at kd <;> omega
  · rcases nf_rec hc hr hm h0 h1 h2 hk (fun q oq hq => all q oq (by omega)) with ⟨-, g, e, e'⟩ | ⟨n, en, n1', r, L, M, hL, g1, g2⟩
    · rw [e'] at hp; cases hp
    · have so := rng_all hw.1 (i := n - 1) (by omega)
      rw [show n - 1 + 1 = n by omega] at so
      simp only [Bool.and_eq_true] at so
      obtain ⟨v1, v2, v3⟩ := so
      obtain ⟨v, hv', f'⟩ := g2 hp
      rcases hL with ⟨rfl, rfl, rfl⟩ | ⟨rfl, rfl, rfl⟩ | ⟨rfl, rfl, rfl⟩
      · exact fin f' (nsu_get v1 hv')
      · exact fin f' (nsu_get v2 hv')
      · exact fin f' (nsu_get v3 hv')
end PmZl
def nA1 : FrT := [[], [(1, 0), (0, 2)], [(1, 2), (0, 4)], [(2, 2), (1, 5), (0, 6)], [(3, 2), (2, 4), (1, 7), (0, 8)], [(3, 4), (2, 9), (1, 10), (0, 11)], [(4, 4), (3, 11), (1, 12), (0, 15)], [(5, 4), (4, 11), (3, 14), (2, 17), (0, 20)], [(6, 14), (4, 15), (3, 23), (0, 26)], [(9, 14), (6, 20), (4, 25), (3, 29), (0, 32)], [(9, 20), (6, 35), (3, 38), (0, 41)], [(12, 20), (10, 22), (9, 41), (3, 44), (0, 53)], [(15, 22), (12, 41), (9, 50), (6, 59), (0, 68)], [(18, 50), (12, 55), (10, 57), (9, 77), (0, 86)], [(27, 50), (18, 68), (12, 83), (9, 95), (0, 104)]]
def nB1 : FrT := [[], [], [], [(1, 3), (0, 5)], [(1, 5), (0, 7)], [(2, 5), (1, 8), (0, 10)], [(3, 5), (2, 7), (1, 10), (0, 12)], [(3, 7), (2, 13), (1, 14), (0, 17)], [(4, 7), (3, 17), (1, 18), (0, 23)], [(5, 7), (4, 17), (3, 23), (0, 29)], [(6, 23), (3, 32), (0, 38)], [(9, 23), (6, 29), (4, 33), (3, 38), (0, 44)], [(9, 29), (8, 31), (6, 47), (3, 50), (0, 59)], [(12, 31), (10, 37), (9, 59), (3, 62), (1, 65), (0, 77)], [(15, 37), (12, 59), (9, 77), (1, 81), (0, 95)]]
def nU1 : FrT := [[], [], [(2, 0), (1, 2), (0, 4)], [(2, 2), (1, 4), (0, 6)], [(3, 2), (2, 5), (1, 7), (0, 8)], [(4, 2), (3, 4), (2, 7), (1, 9), (0, 10)], [(4, 4), (3, 9), (2, 11), (1, 12), (0, 13)], [(5, 4), (4, 11), (3, 13), (1, 15), (0, 17)], [(6, 4), (5, 11), (4, 14), (3, 17), (2, 19), (1, 20), (0, 22)], [(7, 14), (6, 16), (4, 23), (3, 25), (1, 26), (0, 28)], [(10, 14), (9, 16), (7, 20), (6, 22), (5, 25), (4, 29), (3, 31), (1, 32), (0, 34)], [(10, 20), (9, 22), (7, 35), (6, 37), (4, 38), (3, 40), (1, 41), (0, 43)], [(13, 20), (12, 22), (10, 41), (9, 43), (4, 44), (3, 46), (1, 53), (0, 55)], [(16, 22), (15, 24), (13, 41), (12, 43), (10, 50), (9, 52), (7, 59), (6, 61), (1, 68), (0, 70)], [(19, 50), (18, 52), (13, 55), (12, 57), (10, 77), (9, 79), (1, 86), (0, 88)]]
def nV1 : FrT := [[], [], [], [], [(2, 3), (1, 5), (0, 7)], [(2, 5), (1, 7), (0, 9)], [(3, 5), (2, 8), (1, 10), (0, 12)], [(4, 5), (3, 7), (2, 10), (1, 12), (0, 14)], [(4, 7), (3, 13), (2, 15), (1, 17), (0, 19)], [(5, 7), (4, 17), (3, 19), (1, 23), (0, 25)], [(6, 7), (5, 17), (4, 23), (3, 25), (1, 29), (0, 31)], [(7, 23), (6, 25), (4, 32), (3, 34), (1, 38), (0, 40)], [(10, 23), (9, 25), (7, 29), (6, 31), (5, 33), (4, 38), (3, 40), (1, 44), (0, 46)], [(10, 29), (9, 31), (8, 33), (7, 47), (6, 49), (4, 50), (3, 52), (1, 59), (0, 61)], [(13, 31), (12, 33), (11, 37), (10, 59), (9, 61), (4, 62), (3, 64), (2, 65), (1, 77), (0, 79)]]
def nX1 : FrT := [[], [], [], [(3, 0), (2, 2), (1, 4), (0, 6)], [(3, 2), (2, 4), (1, 6), (0, 8)], [(4, 2), (3, 5), (2, 7), (1, 9), (0, 10)], [(5, 2), (4, 4), (3, 7), (2, 9), (1, 11), (0, 12)], [(5, 4), (4, 9), (3, 11), (2, 13), (1, 14), (0, 15)], [(6, 4), (5, 11), (4, 13), (3, 15), (1, 17), (0, 19)], [(7, 4), (6, 11), (5, 14), (4, 17), (3, 19), (2, 21), (1, 22), (0, 24)], [(8, 14), (7, 16), (6, 18), (5, 23), (4, 25), (3, 27), (1, 28), (0, 30)], [(11, 14), (10, 16), (9, 18), (8, 20), (7, 22), (6, 25), (5, 29), (4, 31), (3, 33), (1, 34), (0, 36)], [(11, 20), (10, 22), (9, 24), (8, 35), (7, 37), (6, 39), (4, 40), (3, 42), (1, 43), (0, 45)], [(14, 20), (13, 22), (12, 24), (11, 41), (10, 43), (9, 45), (4, 46), (3, 48), (2, 53), (1, 55), (0, 57)], [(17, 22), (16, 24), (15, 26), (14, 41), (13, 43), (12, 45), (11, 50), (10, 52), (9, 54), (8, 59), (7, 61), (6, 63), (2, 68), (1, 70), (0, 72)]]
def nY1 : FrT := [[], [], [], [], [], [(3, 3), (2, 5), (1, 7), (0, 9)], [(3, 5), (2, 7), (1, 9), (0, 11)], [(4, 5), (3, 8), (2, 10), (1, 12), (0, 14)], [(5, 5), (4, 7), (3, 10), (2, 12), (1, 14), (0, 16)], [(5, 7), (4, 13), (3, 15), (2, 17), (1, 19), (0, 21)], [(6, 7), (5, 17), (4, 19), (3, 21), (2, 23), (1, 25), (0, 27)], [(7, 7), (6, 17), (5, 23), (4, 25), (3, 27), (2, 29), (1, 31), (0, 33)], [(8, 23), (7, 25), (6, 27), (5, 32), (4, 34), (3, 36), (2, 38), (1, 40), (0, 42)], [(11, 23), (10, 25), (9, 27), (8, 29), (7, 31), (6, 33), (5, 38), (4, 40), (3, 42), (2, 44), (1, 46), (0, 48)], [(11, 29), (10, 31), (9, 33), (8, 47), (7, 49), (6, 51), (4, 52), (3, 54), (2, 59), (1, 61), (0, 63)]]
def nW1 : List (Nat × Nat) := [(12, 33), (10, 39), (9, 61), (3, 64), (1, 67), (0, 79)]
theorem nf1_ok : nfc nA1 nB1 nU1 nV1 nX1 nY1 0 2 3 1 2 2 2 2 = true := by decide +kernel
theorem nw1_ok : nwc nA1 nB1 nV1 nY1 nW1 2 2 2 2 = true := by decide +kernel
def nAq : FrT := [[], [(1, 0), (0, 1)], [(1, 3), (0, 4)], [(2, 2), (1, 6), (0, 7)], [(3, 1), (2, 5), (1, 9), (0, 10)], [(3, 4), (2, 8), (1, 12), (0, 13)], [(4, 3), (3, 7), (2, 11), (1, 15), (0, 16)], [(5, 2), (4, 7), (3, 11), (2, 15), (1, 18), (0, 19)], [(6, 8), (4, 13), (3, 20), (2, 21), (0, 23)], [(9, 5), (6, 17), (4, 19), (3, 29), (0, 32)], [(9, 14), (6, 26), (4, 28), (3, 38), (0, 41)], [(12, 11), (10, 13), (9, 23), (8, 24), (6, 35), (4, 40), (3, 47), (0, 50)], [(15, 8), (12, 23), (10, 28), (9, 35), (8, 36), (6, 47), (5, 48), (4, 52), (3, 56), (0, 59)], [(18, 26), (12, 41), (10, 43), (9, 62), (6, 65), (0, 71)], [(27, 17), (20, 18), (18, 53), (12, 59), (9, 89), (0, 98)]]
def nBq : FrT := [[], [], [], [(1, 1), (0, 2)], [(1, 4), (0, 5)], [(2, 3), (1, 7), (0, 8)], [(3, 2), (2, 6), (1, 10), (0, 11)], [(3, 5), (2, 9), (1, 13), (0, 14)], [(4, 4), (3, 8), (2, 12), (1, 16), (0, 17)], [(5, 3), (4, 9), (3, 14), (2, 17), (1, 19), (0, 20)], [(6, 11), (4, 15), (3, 23), (0, 26)], [(9, 8), (6, 20), (4, 21), (3, 32), (0, 35)], [(9, 17), (6, 29), (4, 32), (3, 41), (0, 44)], [(12, 14), (10, 18), (9, 26), (8, 28), (6, 38), (4, 44), (3, 50), (0, 53)], [(15, 13), (12, 29), (10, 33), (9, 44), (6, 53), (4, 56), (3, 59), (0, 62)]]
def nUq : FrT := [[], [], [(2, 0), (1, 1), (0, 2)], [(2, 3), (1, 4), (0, 5)], [(3, 2), (2, 6), (1, 7), (0, 8)], [(4, 1), (3, 5), (2, 9), (1, 10), (0, 11)], [(4, 4), (3, 8), (2, 12), (1, 13), (0, 14)], [(5, 3), (4, 7), (3, 11), (2, 15), (1, 16), (0, 17)], [(6, 2), (5, 7), (4, 11), (3, 15), (2, 18), (1, 19), (0, 20)], [(7, 8), (6, 9), (5, 13), (4, 20), (3, 21), (2, 22), (1, 23), (0, 24)], [(10, 5), (9, 6), (7, 17), (6, 18), (5, 19), (4, 29), (3, 30), (1, 32), (0, 33)], [(10, 14), (9, 15), (7, 26), (6, 27), (5, 28), (4, 38), (3, 39), (1, 41), (0, 42)], [(13, 11), (12, 12), (11, 13), (10, 23), (9, 24), (8, 25), (7, 35), (6, 36), (5, 40), (4, 47), (3, 48), (1, 50), (0, 51)], [(16, 8), (15, 9), (13, 23), (12, 24), (11, 28), (10, 35), (9, 36), (8, 37), (7, 47), (6, 48), (5, 52), (4, 56), (3, 57), (1, 59), (0, 60)], [(19, 26), (18, 27), (13, 41), (12, 42), (11, 43), (10, 62), (9, 63), (7, 65), (6, 66), (1, 71), (0, 72)]]
def nVq : FrT := [[], [], [], [], [(2, 1), (1, 2), (0, 3)], [(2, 4), (1, 5), (0, 6)], [(3, 3), (2, 7), (1, 8), (0, 9)], [(4, 2), (3, 6), (2, 10), (1, 11), (0, 12)], [(4, 5), (3, 9), (2, 13), (1, 14), (0, 15)], [(5, 4), (4, 8), (3, 12), (2, 16), (1, 17), (0, 18)], [(6, 3), (5, 9), (4, 14), (3, 17), (2, 19), (1, 20), (0, 21)], [(7, 11), (6, 12), (5, 15), (4, 23), (3, 24), (1, 26), (0, 27)], [(10, 8), (9, 9), (7, 20), (6, 21), (4, 32), (3, 33), (1, 35), (0, 36)], [(10, 17), (9, 18), (7, 29), (6, 30), (5, 32), (4, 41), (3, 42), (1, 44), (0, 45)], [(13, 14), (12, 15), (11, 18), (10, 26), (9, 28), (8, 29), (7, 38), (6, 39), (5, 44), (4, 50), (3, 51), (1, 53), (0, 54)]]
def nXq : FrT := [[], [], [], [(3, 0), (2, 1), (1, 2), (0, 3)], [(3, 3), (2, 4), (1, 5), (0, 6)], [(4, 2), (3, 6), (2, 7), (1, 8), (0, 9)], [(5, 1), (4, 5), (3, 9), (2, 10), (1, 11), (0, 12)], [(5, 4), (4, 8), (3, 12), (2, 13), (1, 14), (0, 15)], [(6, 3), (5, 7), (4, 11), (3, 15), (2, 16), (1, 17), (0, 18)], [(7, 2), (6, 7), (5, 11), (4, 15), (3, 18), (2, 19), (1, 20), (0, 21)], [(8, 8), (7, 9), (6, 13), (5, 20), (4, 21), (3, 22), (2, 23), (1, 24), (0, 25)], [(11, 5), (10, 6), (9, 7), (8, 17), (7, 18), (6, 19), (5, 29), (4, 30), (3, 31), (2, 32), (1, 33), (0, 34)], [(11, 14), (10, 15), (9, 16), (8, 26), (7, 27), (6, 28), (5, 38), (4, 39), (3, 40), (2, 41), (1, 42), (0, 43)], [(14, 11), (13, 12), (12, 13), (11, 23), (10, 24), (9, 25), (8, 35), (7, 36), (6, 40), (5, 47), (4, 48), (3, 49), (2, 50), (1, 51), (0, 52)], [(17, 8), (16, 9), (15, 10), (14, 23), (13, 24), (12, 28), (11, 35), (10, 36), (9, 37), (8, 47), (7, 48), (6, 52), (5, 56), (4, 57), (3, 58), (2, 59), (1, 60), (0, 61)]]
def nYq : FrT := [[], [], [], [], [], [(3, 1), (2, 2), (1, 3), (0, 4)], [(3, 4), (2, 5), (1, 6), (0, 7)], [(4, 3), (3, 7), (2, 8), (1, 9), (0, 10)], [(5, 2), (4, 6), (3, 10), (2, 11), (1, 12), (0, 13)], [(5, 5), (4, 9), (3, 13), (2, 14), (1, 15), (0, 16)], [(6, 4), (5, 8), (4, 12), (3, 16), (2, 17), (1, 18), (0, 19)], [(7, 3), (6, 9), (5, 14), (4, 17), (3, 19), (2, 20), (1, 21), (0, 22)], [(8, 11), (7, 12), (6, 15), (5, 23), (4, 24), (3, 25), (2, 26), (1, 27), (0, 28)], [(11, 8), (10, 9), (9, 10), (8, 20), (7, 21), (6, 22), (5, 32), (4, 33), (3, 34), (2, 35), (1, 36), (0, 37)], [(11, 17), (10, 18), (9, 19), (8, 29), (7, 30), (6, 32), (5, 41), (4, 42), (3, 43), (2, 44), (1, 45), (0, 46)]]
def nWq : List (Nat × Nat) := [(12, 17), (10, 21), (9, 29), (8, 31), (6, 41), (4, 47), (3, 53), (0, 56)]
theorem nfq_ok : nfc nAq nBq nUq nVq nXq nYq 1 1 1 0 1 3 2 1 = true := by decide +kernel
theorem nwq_ok : nwc nAq nBq nVq nYq nWq 1 3 2 1 = true := by decide +kernel
