/-! FORMS OF WHAT IS CUT: how often the variable counts (p), the other leaves (l) and what is left (a), by characters. -/
theorem fav_0 : ∀ (f : Nat) (t : Ty) (d : Nat), (flat t).length ≤ f → ok d t = true → fav 0 (fun _ => 0) 0 0 t = 0
  | 0, t, d, hf, o => by have := flat_pos o; omega
  | f + 1, t, d, hf, o => by
    rcases ok_cases o with rfl | ⟨j, hj, rfl⟩ | ⟨a, c, rfl, ha, hb⟩ | ⟨a, c, rfl, ha, hb⟩ | ⟨m, x, y, z, hm, rfl, h0, h1, h2⟩
    · exact fav_top
    · exact fav_var j
    · rw [flat_fun, List.length_cons, List.length_append] at hf
      rw [fav_fun, fav_0 f a d (by omega) ha, fav_0 f c d (by omega) hb]
    · rw [flat_all, List.length_cons, List.length_append] at hf
      rw [fav_all, fav_0 f a d (by omega) ha, fav_0 f c (d + 1) (by omega) hb]
      simp
    · rw [flat_rec, List.length_cons, List.length_append, List.length_append] at hf
      have key : ∀ (i : Nat) (p : Ty), (flat p).length ≤ f → okl d m i p → fav 0 (fun _ => 0) 0 0 p = 0 := by
        intro i p hp ho
        unfold okl at ho
        by_cases hb : bit m i = true
        · rw [if_pos hb] at ho
          exact fav_0 f p d hp ho
        · rw [if_neg hb] at ho
          rw [ho, fav_nil]
      rw [fav_rec, key 0 x (by omega) h0, key 1 y (by omega) h1, key 2 z (by omega) h2]
/-- the coefficient is at most the leaves -/
theorem cf_flv {γ : List Nat} {t : Ty} (o : ok γ.length t = true) (hγ : ∀ j, j < γ.length → vw γ j ≤ 1) : nz 0 (fun _ => 0) 0 (fun y => y) γ t ≤ flv t := by
  have q := FM_self (t0 := 0) (n1 := fun _ => 0) (s2 := 0) (h := fun y => y) (hv := 0) (x0 := 0) (fun y x _ => by show y ≤ 0 + max y x; omega) _ t _ (Nat.le_refl _) o 1 γ (Nat.zero_le _) hγ o
  rw [fav_0 _ t _ (Nat.le_refl _) o] at q
  omega
/-- what does not name the variable has none -/
theorem cf_lack {r : Nat} : ∀ (f : Nat) (t : Ty) (γ : List Nat), (flat t).length ≤ f → ok γ.length t = true → (∀ j, j < γ.length → j ≠ r → vw γ j = 0) → men r t = false → nz 0 (fun _ => 0) 0 (fun y => y) γ t = 0
  | 0, t, γ, hf, o, _, _ => by have := flat_pos o; omega
  | f + 1, t, γ, hf, o, hγ, hm => by
    rcases ok_cases o with rfl | ⟨j, hj, rfl⟩ | ⟨a, c, rfl, ha, hb⟩ | ⟨a, c, rfl, ha, hb⟩ | ⟨m, x, y, z, hm', rfl, h0, h1, h2⟩
    · rw [nz_top]
    · rw [men_var] at hm
      rw [nz_var]
      exact hγ j hj (by simpa using hm)
    · rw [flat_fun, List.length_cons, List.length_append] at hf
      rw [men_fun, Bool.or_eq_false_iff] at hm
      rw [nz_fun, cf_lack f a γ (by omega) ha hγ hm.1, cf_lack f c γ (by omega) hb hγ hm.2]
    · rw [flat_all, List.length_cons, List.length_append] at hf
      rw [men_all, Bool.or_eq_false_iff] at hm
      have q1 := cf_lack f a γ (by omega) ha hγ hm.1
      rw [nz_all, q1, cf_lack f c (0 :: γ) (by omega) (by rw [List.length_cons]; exact hb) (fun j hj ne => ?_) hm.2]
      rw [vw_cons]
      by_cases e : j = γ.length
      · rw [if_pos e]
      · rw [if_neg e]; exact hγ j (by rw [List.length_cons] at hj; omega) ne
    · rw [flat_rec, List.length_cons, List.length_append, List.length_append] at hf
      rw [men_rec hm', Bool.or_eq_false_iff, Bool.or_eq_false_iff] at hm
      have key : ∀ (i : Nat) (p : Ty), (flat p).length ≤ f → okl γ.length m i p → men r p = false → nz 0 (fun _ => 0) 0 (fun y => y) γ p = 0 := by
        intro i p hp ho hn
        unfold okl at ho
        by_cases hb : bit m i = true
        · rw [if_pos hb] at ho
          exact cf_lack f p γ hp ho hγ hn
        · rw [if_neg hb] at ho
          rw [ho, nz_nil]
      rw [nz_rec, key 0 x (by omega) h0 hm.1, key 1 y (by omega) h1 hm.2.1, key 2 z (by omega) h2 hm.2.2]
def FM3 (t0 : Nat) (n1 : Nat → Nat) (s2 : Nat) (h : Nat → Nat) (x0 w r : Nat) (t : Ty) (p l a : Nat) : Prop := (∀ (x : Nat) (ω : List Nat), x0 ≤ x → w ≤ x → r < ω.length → vw ω r ≤ w → (∀ j, j < ω.length → vw ω j ≤ x) → ok ω.length t = true → nz t0 n1 s2 h ω (ct kp2 r t) ≤ a + l * x) ∧ (∀ γ : List Nat, r < γ.length → vw γ r ≤ 1 → (∀ j, j < γ.length → j ≠ r → vw γ j = 0) → ok γ.length t = true → nz 0 (fun _ => 0) 0 (fun y => y) γ t ≤ p)
section PmNc
variable {t0 s2 hv x0 w r : Nat} {n1 h : Nat → Nat} {t a b : Ty} {p p1 p2 l l1 l2 c c1 c2 : Nat}
theorem FM3.mono (f : FM3 t0 n1 s2 h x0 w r t p l c) (h0 : p ≤ p1) (h1 : l ≤ l1) (h2 : c ≤ c1) : FM3 t0 n1 s2 h x0 w r t p1 l1 c1 := by
  refine ⟨fun x ω hx hw hr hp hω o => ?_, fun γ hr hp hγ o => Nat.le_trans (f.2 γ hr hp hγ o) h0⟩
  have := f.1 x ω hx hw hr hp hω o
  have := Nat.mul_le_mul_right x h1
  omega
theorem FM3_top : FM3 t0 n1 s2 h x0 w r tTop 0 0 t0 := by
  refine ⟨fun x ω _ _ _ _ _ _ => ?_, fun γ _ _ _ _ => ?_⟩
  · rw [ct_top, nz_top]; omega
  · rw [nz_top]; omega
theorem FM3_P : FM3 t0 n1 s2 h x0 w r (tVar r) 1 0 w := by
  refine ⟨fun x ω _ _ _ hp _ _ => ?_, fun γ _ hp _ _ => ?_⟩
  · rw [ct_var, nz_var]; omega
  · rw [nz_var]; exact hp
theorem FM3_var (k : Nat) (ne : k ≠ r) : FM3 t0 n1 s2 h x0 w r (tVar k) 0 1 0 := by
  refine ⟨fun x ω _ _ _ _ hω o => ?_, fun γ _ _ hγ o => ?_⟩
  · rw [ct_var, nz_var]
    have hk : k < ω.length := by simp [tVar, ok] at o; omega
    have := hω k hk
    omega
  · rw [nz_var]
    have hk : k < γ.length := by simp [tVar, ok] at o; omega
    rw [hγ k hk ne]; omega
theorem FM3_fun (f : FM3 t0 n1 s2 h x0 w r a p1 l1 c1) (g : FM3 t0 n1 s2 h x0 w r b p2 l2 c2) : FM3 t0 n1 s2 h x0 w r (tFun a b) (p1 + p2) (l1 + l2) (n1 1 + c1 + c2) := by
  refine ⟨fun x ω hx hw hr hp hω o => ?_, fun γ hr hp hγ o => ?_⟩
  · have o := ok_fun.mp o
    have q1 := f.1 x ω hx hw hr hp hω o.1
    have q2 := g.1 x ω hx hw hr hp hω o.2
    rw [ct_fun, nz_fun, Nat.add_mul]; omega
  · have o := ok_fun.mp o
    have q1 := f.2 γ hr hp hγ o.1
    have q2 := g.2 γ hr hp hγ o.2
    rw [nz_fun]; omega
/-- a header that does not name it -/
theorem FM3_all (H : ∀ y x, x0 ≤ x → h y ≤ hv + max y x) (nm : men r a = false) (f : FM t0 n1 s2 h x0 a l1 c1) (g : FM3 t0 n1 s2 h x0 w r b p2 l2 c2) : FM3 t0 n1 s2 h x0 w r (tAll a b) p2 (l2 * max 1 l1) (s2 + c2 + l2 * (hv + c1)) := by
  refine ⟨fun x ω hx hw hr hp hω o => ?_, fun γ hr hp hγ o => ?_⟩
  · have o := ok_all.mp o
    have q1 := f x ω hx hω o.1
    rw [ct_all, nm, Bool.false_and, if_neg Bool.false_ne_true, nz_all]
    have m1 : x ≤ max 1 l1 * x := by
      have := Nat.mul_le_mul_right x (Nat.le_max_left 1 l1)
      omega
    have m2 : l1 * x ≤ max 1 l1 * x := Nat.mul_le_mul_right x (Nat.le_max_right 1 l1)
    have q3 : h (nz t0 n1 s2 h ω a) ≤ (hv + c1) + max 1 l1 * x := by
      have := H (nz t0 n1 s2 h ω a) x hx
      omega
    have q2 := g.1 ((hv + c1) + max 1 l1 * x) (h (nz t0 n1 s2 h ω a) :: ω) (by omega) (by omega) (by rw [List.length_cons]; omega) (by rw [vw_cons, if_neg (by omega)]; exact hp) (fun j hj => by
      rw [vw_cons]
      by_cases e : j = ω.length
      · rw [if_pos e]; exact q3
      · rw [if_neg e]
        have := hω j (by rw [List.length_cons] at hj; omega)
        omega) o.2
    have e1 : l2 * ((hv + c1) + max 1 l1 * x) = l2 * (hv + c1) + l2 * max 1 l1 * x := by rw [Nat.mul_add, Nat.mul_assoc]
    omega
  · have o := ok_all.mp o
    rw [nz_all, cf_lack _ a γ (Nat.le_refl _) o.1 hγ nm]
    have q := g.2 (0 :: γ) (by rw [List.length_cons]; omega) (by rw [vw_cons, if_neg (by omega)]; exact hp) (fun j hj ne => by
      rw [vw_cons]
      by_cases e : j = γ.length
      · rw [if_pos e]
      · rw [if_neg e]; exact hγ j (by rw [List.length_cons] at hj; omega) ne) o.2
    omega
/-- a header that names it is cut -/
theorem FM3_own (nm : men r a = true) (hl : flv (tAll a b) ≤ p) : FM3 t0 n1 s2 h x0 w r (tAll a b) p 0 (s2 + t0) := by
  refine ⟨fun x ω hx hw hr hp hω o => ?_, fun γ hr hp hγ o => ?_⟩
  · rw [ct_all, nm]
    show nz t0 n1 s2 h ω (tAll a tTop) ≤ _
    rw [nz_all, nz_top]; omega
  · refine Nat.le_trans (cf_flv o (fun j hj => ?_)) hl
    by_cases e : j = r
    · rw [e]; exact hp
    · rw [hγ j hj e]; omega
theorem FM3_rec {m : Nat} (hm : m < 8) {x y z : Ty} {p0 p1 p2 l0 l1 l2 c0 c1 c2 : Nat} (f0 : bit m 0 = true → FM3 t0 n1 s2 h x0 w r x p0 l0 c0) (f1 : bit m 1 = true → FM3 t0 n1 s2 h x0 w r y p1 l1 c1) (f2 : bit m 2 = true → FM3 t0 n1 s2 h x0 w r z p2 l2 c2) : FM3 t0 n1 s2 h x0 w r (tRec m x y z) (p0 + (p1 + p2)) (l0 + (l1 + l2)) (n1 (8 + m) + (c0 + (c1 + c2))) := by
  refine ⟨fun v ω hx hw hr hp hω o => ?_, fun γ hr hp hγ o => ?_⟩
  · obtain ⟨o0, o1, o2⟩ := (ok_rec hm).mp o
    have key : ∀ (i l c p' : Nat) (p : Ty), okl ω.length m i p → (bit m i = true → FM3 t0 n1 s2 h x0 w r p p' l c) → nz t0 n1 s2 h ω (ct kp2 r p) ≤ c + l * v := by
      intro i l c p' p ho f
      unfold okl at ho
      by_cases hb : bit m i = true
      · rw [if_pos hb] at ho
        exact (f hb).1 v ω hx hw hr hp hω ho
      · rw [if_neg hb] at ho
        rw [ho, ct_nil, nz_nil]; exact Nat.zero_le _
    have q0 := key 0 l0 c0 p0 x o0 f0
    have q1 := key 1 l1 c1 p1 y o1 f1
    have q2 := key 2 l2 c2 p2 z o2 f2
    rw [ct_rec, nz_rec, Nat.add_mul, Nat.add_mul]; omega
  · obtain ⟨o0, o1, o2⟩ := (ok_rec hm).mp o
    have key : ∀ (i l c p' : Nat) (p : Ty), okl γ.length m i p → (bit m i = true → FM3 t0 n1 s2 h x0 w r p p' l c) → nz 0 (fun _ => 0) 0 (fun y => y) γ p ≤ p' := by
      intro i l c p' p ho f
      unfold okl at ho
      by_cases hb : bit m i = true
      · rw [if_pos hb] at ho
        exact (f hb).2 γ hr hp hγ ho
      · rw [if_neg hb] at ho
        rw [ho, nz_nil]; exact Nat.zero_le _
    have q0 := key 0 l0 c0 p0 x o0 f0
    have q1 := key 1 l1 c1 p1 y o1 f1
    have q2 := key 2 l2 c2 p2 z o2 f2
    rw [nz_rec]; omega
end PmNc
abbrev FrU : Type := List (List (Nat × Nat × Nat))
def fug (F : FrU) (k : Nat) : List (Nat × Nat × Nat) := F.getD k []
def dom3 (p l a : Nat) (L : List (Nat × Nat × Nat)) : Bool := L.any (fun q => Nat.ble p q.1 && (Nat.ble l q.2.1 && Nat.ble a q.2.2))
theorem dom3_ex {p l a : Nat} {L : List (Nat × Nat × Nat)} (h : dom3 p l a L = true) : ∃ q ∈ L, p ≤ q.1 ∧ l ≤ q.2.1 ∧ a ≤ q.2.2 := by
  unfold dom3 at h
  rw [List.any_eq_true] at h
  obtain ⟨q, hq, h⟩ := h
  rw [Bool.and_eq_true, Bool.and_eq_true] at h
  exact ⟨q, hq, Nat.le_of_ble_eq_true h.1, Nat.le_of_ble_eq_true h.2.1, Nat.le_of_ble_eq_true h.2.2⟩
/-- the tables are closed: F by characters, G for two fields, E the forms of bounds; one row of the check -/
def fuR (F G : FrU) (E : FrT) (t0 fn s2 hv r0 r1 r2 r3 w k : Nat) : Bool :=
  (dom3 0 0 t0 (fug F k) && (dom3 1 0 w (fug F k) && (dom3 0 1 0 (fug F k) && ((Nat.ble k 1 || dom3 0 0 r0 (fug F k)) && (Nat.ble k 5 || (frg E k).all (fun q => dom3 q.1 0 (s2 + t0) (fug F k))))))) &&
  ((Nat.ble 36 k || (fug F k).all (fun p => dom3 p.1 p.2.1 (r1 + p.2.2) (fug F (k + 3)))) &&
  ((Nat.ble 34 k || (fug G k).all (fun p => dom3 p.1 p.2.1 (r2 + p.2.2) (fug F (k + 5)))) &&
  (Nat.ble 36 k || (fug G k).all (fun p => dom3 p.1 p.2.1 (fn + p.2.2) (fug F (k + 3))))))
def fuS (F G : FrU) (k : Nat) : Bool := (List.range (39 - k)).all (fun j => Nat.ble j (k - 1) || (fug F k).all (fun p => (fug F j).all (fun q => dom3 (p.1 + q.1) (p.2.1 + q.2.1) (p.2.2 + q.2.2) (fug G (k + j)))))
def fuA (F : FrU) (E : FrT) (s2 hv k : Nat) : Bool := (List.range (35 - k)).all (fun j => (frg E k).all (fun p => (fug F j).all (fun q => dom3 q.1 (q.2.1 * max 1 p.1) (s2 + q.2.2 + q.2.1 * (hv + p.2)) (fug F (k + j + 4)))))
def fuT (F G : FrU) (r3 k : Nat) : Bool := (List.range (32 - k)).all (fun j => (fug G k).all (fun p => (fug F j).all (fun q => dom3 (p.1 + q.1) (p.2.1 + q.2.1) (r3 + (p.2.2 + q.2.2)) (fug F (k + j + 7)))))
def fuc (F G : FrU) (E : FrT) (t0 fn s2 hv r0 r1 r2 r3 w : Nat) : Prop := ∀ k, 1 ≤ k → k ≤ 38 → fuR F G E t0 fn s2 hv r0 r1 r2 r3 w k = true ∧ fuS F G k = true ∧ fuA F E s2 hv k = true ∧ fuT F G r3 k = true
section PmNd
variable {F G : FrU} {E : FrT} {t0 fn s2 hv r0 r1 r2 r3 w : Nat}
theorem fuc_0 (h : fuc F G E t0 fn s2 hv r0 r1 r2 r3 w) {k : Nat} (k1 : 1 ≤ k) (k2 : k ≤ 38) : dom3 0 0 t0 (fug F k) = true ∧ dom3 1 0 w (fug F k) = true ∧ dom3 0 1 0 (fug F k) = true ∧ (2 ≤ k → dom3 0 0 r0 (fug F k) = true) ∧ (6 ≤ k → ∀ q ∈ frg E k, dom3 q.1 0 (s2 + t0) (fug F k) = true) := by
  have q := (h k k1 k2).1
  unfold fuR at q
  rw [Bool.and_eq_true] at q
  have q := q.1
  rw [Bool.and_eq_true, Bool.and_eq_true, Bool.and_eq_true, Bool.and_eq_true] at q
  refine ⟨q.1, q.2.1, q.2.2.1, fun k3 => ?_, fun k3 v hv => ?_⟩
  · have q := q.2.2.2.1
    rw [Bool.or_eq_true] at q
    rcases q with q | q
    · have := Nat.le_of_ble_eq_true q; omega
    · exact q
  · have q := q.2.2.2.2
    rw [Bool.or_eq_true] at q
    rcases q with q | q
    · have := Nat.le_of_ble_eq_true q; omega
    · exact List.all_eq_true.mp q v hv
theorem fuc_1 (h : fuc F G E t0 fn s2 hv r0 r1 r2 r3 w) {k : Nat} (k1 : 1 ≤ k) (k2 : k + 3 ≤ 38) {p : Nat × Nat × Nat} (hp : p ∈ fug F k) : dom3 p.1 p.2.1 (r1 + p.2.2) (fug F (k + 3)) = true := by
  have q := (h k k1 (by omega)).1
  unfold fuR at q
  have q := (Bool.and_eq_true_iff.mp q).2
  have q := (Bool.and_eq_true_iff.mp q).1
  rw [Bool.or_eq_true] at q
  rcases q with q | q
  · have := Nat.le_of_ble_eq_true q; omega
  · exact List.all_eq_true.mp q p hp
theorem fuc_2 (h : fuc F G E t0 fn s2 hv r0 r1 r2 r3 w) {k : Nat} (k1 : 1 ≤ k) (k2 : k + 5 ≤ 38) {p : Nat × Nat × Nat} (hp : p ∈ fug G k) : dom3 p.1 p.2.1 (r2 + p.2.2) (fug F (k + 5)) = true := by
  have q := (h k k1 (by omega)).1
  unfold fuR at q
  have q := (Bool.and_eq_true_iff.mp q).2
  have q := (Bool.and_eq_true_iff.mp q).2
  have q := (Bool.and_eq_true_iff.mp q).1
  rw [Bool.or_eq_true] at q
  rcases q with q | q
  · have := Nat.le_of_ble_eq_true q; omega
  · exact List.all_eq_true.mp q p hp
theorem fuc_3 (h : fuc F G E t0 fn s2 hv r0 r1 r2 r3 w) {k : Nat} (k1 : 1 ≤ k) (k2 : k + 3 ≤ 38) {p : Nat × Nat × Nat} (hp : p ∈ fug G k) : dom3 p.1 p.2.1 (fn + p.2.2) (fug F (k + 3)) = true := by
  have q := (h k k1 (by omega)).1
  unfold fuR at q
  have q := (Bool.and_eq_true_iff.mp q).2
  have q := (Bool.and_eq_true_iff.mp q).2
  have q := (Bool.and_eq_true_iff.mp q).2
  rw [Bool.or_eq_true] at q
  rcases q with q | q
  · have := Nat.le_of_ble_eq_true q; omega
  · exact List.all_eq_true.mp q p hp
theorem fuc_g (h : fuc F G E t0 fn s2 hv r0 r1 r2 r3 w) {i j : Nat} (i1 : 1 ≤ i) (j1 : 1 ≤ j) (k2 : i + j ≤ 38) : ∀ p ∈ fug F i, ∀ q ∈ fug F j, dom3 (p.1 + q.1) (p.2.1 + q.2.1) (p.2.2 + q.2.2) (fug G (i + j)) = true := by
  have key : ∀ i j, 1 ≤ i → i ≤ j → i + j ≤ 38 → ∀ p ∈ fug F i, ∀ q ∈ fug F j, dom3 (p.1 + q.1) (p.2.1 + q.2.1) (p.2.2 + q.2.2) (fug G (i + j)) = true := by
    intro i j i1 ij hk p hp q hq
    have c := (h i i1 (by omega)).2.1
    unfold fuS at c
    have c := rng_all c (i := j) (by omega)
    rw [Bool.or_eq_true] at c
    rcases c with c | c
    · have := Nat.le_of_ble_eq_true c; omega
    · exact List.all_eq_true.mp (List.all_eq_true.mp c p hp) q hq
  intro p hp q hq
  by_cases c : i ≤ j
  · exact key i j i1 c k2 p hp q hq
  · have := key j i j1 (by omega) (by omega) q hq p hp
    rw [Nat.add_comm q.1, Nat.add_comm q.2.1, Nat.add_comm q.2.2, Nat.add_comm j] at this
    exact this
theorem fuc_p (h : fuc F G E t0 fn s2 hv r0 r1 r2 r3 w) {i j : Nat} (i1 : 1 ≤ i) (j1 : 1 ≤ j) : (i + j + 4 ≤ 38 → ∀ p ∈ frg E i, ∀ q ∈ fug F j, dom3 q.1 (q.2.1 * max 1 p.1) (s2 + q.2.2 + q.2.1 * (hv + p.2)) (fug F (i + j + 4)) = true) ∧ (i + j + 7 ≤ 38 → ∀ p ∈ fug G i, ∀ q ∈ fug F j, dom3 (p.1 + q.1) (p.2.1 + q.2.1) (r3 + (p.2.2 + q.2.2)) (fug F (i + j + 7)) = true) := by
  refine ⟨fun hk p hp q hq => ?_, fun hk p hp q hq => ?_⟩
  · have c := (h i i1 (by omega)).2.2.1
    unfold fuA at c
    exact List.all_eq_true.mp (List.all_eq_true.mp (rng_all c (i := j) (by omega)) p hp) q hq
  · have c := (h i i1 (by omega)).2.2.2
    unfold fuT at c
    exact List.all_eq_true.mp (List.all_eq_true.mp (rng_all c (i := j) (by omega)) p hp) q hq
end PmNd
section PmNe
variable {F G : FrU} {E E' : FrT} {t0 fn s2 hv r0 r1 r2 r3 x0 w lv : Nat} {n1 h : Nat → Nat}
/-- the triple of a type is in the table of its characters -/
theorem fu_form (he : frc E E' t0 fn s2 hv r0 r1 r2 r3 = true) (hc : fuc F G E t0 fn s2 hv r0 r1 r2 r3 w) (H : ∀ y x, x0 ≤ x → h y ≤ hv + max y x) (hf1 : n1 1 ≤ fn) (hr : ∀ m, m < 8 → n1 (8 + m) ≤ (if nlb m = 0 then r0 else if nlb m = 1 then r1 else if nlb m = 2 then r2 else r3)) : ∀ (f : Nat) (t : Ty) (d : Nat), (flat t).length ≤ f → ok d t = true → tch t ≤ 38 → ∃ p ∈ fug F (tch t), FM3 t0 n1 s2 h x0 w lv t p.1 p.2.1 p.2.2
  | 0, t, d, hf, o, _ => by have := flat_pos o; omega
  | f + 1, t, d, hf, o, hk => by
    have fin : ∀ {p0 l a : Nat} {t : Ty} {k : Nat}, FM3 t0 n1 s2 h x0 w lv t p0 l a → dom3 p0 l a (fug F k) = true → ∃ p ∈ fug F k, FM3 t0 n1 s2 h x0 w lv t p.1 p.2.1 p.2.2 := by
      intro p0 l a t k g hd
      obtain ⟨p, hp, h1, h2, h3⟩ := dom3_ex hd
      exact ⟨p, hp, g.mono h1 h2 h3⟩
    rcases ok_cases o with rfl | ⟨j, hj, rfl⟩ | ⟨a, c, rfl, ha, hb⟩ | ⟨a, c, rfl, ha, hb⟩ | ⟨m, x, y, z, hm, rfl, h0, h1, h2⟩
    · exact fin FM3_top (fuc_0 hc (by decide) hk).1
    · by_cases ej : j = lv
      · subst ej
        exact fin FM3_P (fuc_0 hc (show 1 ≤ tch (tVar j) from Nat.le_refl 1) hk).2.1
      · exact fin (FM3_var j ej) (fuc_0 hc (show 1 ≤ tch (tVar j) from Nat.le_refl 1) hk).2.2.1
    · rw [flat_fun, List.length_cons, List.length_append] at hf
      rw [tch_fun] at hk ⊢
      have pa := tch_pos ha
      have pc := tch_pos hb
      obtain ⟨p, hp, fp⟩ := fu_form he hc H hf1 hr f a d (by omega) ha (by omega)
      obtain ⟨q, hq, fq⟩ := fu_form he hc H hf1 hr f c d (by omega) hb (by omega)
      rw [show 3 + (tch a + tch c) = tch a + tch c + 3 by omega]
      obtain ⟨v, hv', g0, g1, g2⟩ := dom3_ex (fuc_g hc pa pc (by omega) p hp q hq)
      exact fin ((FM3_fun fp fq).mono g0 g1 (show n1 1 + p.2.2 + q.2.2 ≤ fn + v.2.2 by omega)) (fuc_3 hc (by omega) (by omega) hv')
    · rw [flat_all, List.length_cons, List.length_append] at hf
      rw [tch_all] at hk ⊢
      have pa := tch_pos ha
      have pc := tch_pos hb
      rw [show 4 + (tch a + tch c) = tch a + tch c + 4 by omega] at hk ⊢
      cases nm : men lv a with
      | false =>
        obtain ⟨p, hp, fp⟩ := fr_form he H hf1 hr _ a d (Nat.le_refl _) ha (by omega)
        obtain ⟨q, hq, fq⟩ := fu_form he hc H hf1 hr f c (d + 1) (by omega) hb (by omega)
        exact fin (FM3_all H nm fp fq) ((fuc_p hc pa pc).1 (by omega) p hp q hq)
      | true =>
        obtain ⟨p, hp, fp⟩ := fr_lfa he hf1 hr _ (tAll a c) d (Nat.le_refl _) o (by rw [tch_all]; omega)
        rw [tch_all, show 4 + (tch a + tch c) = tch a + tch c + 4 by omega] at hp
        exact fin (FM3_own nm fp.1) ((fuc_0 hc (by omega) hk).2.2.2.2 (by omega) p hp)
    · rw [flat_rec, List.length_cons, List.length_append, List.length_append] at hf
      rw [tch_rec] at hk ⊢
      have hn := hr m hm
      have ih : ∀ (i : Nat) (p : Ty), (flat p).length ≤ f → okl d m i p → bit m i = true → tch p ≤ 38 → 1 ≤ tch p ∧ ∃ q ∈ fug F (tch p), FM3 t0 n1 s2 h x0 w lv p q.1 q.2.1 q.2.2 := by
        intro i p hp ho hb hk
        unfold okl at ho
        rw [if_pos hb] at ho
        exact ⟨tch_pos ho, fu_form he hc H hf1 hr f p d hp ho hk⟩
      have nil : ∀ (i : Nat) (p : Ty), okl d m i p → ¬ bit m i = true → tch p = 0 := by
        intro i p ho hb
        unfold okl at ho
        rw [if_neg hb] at ho
        rw [ho]; rfl
      have nb : nlb m = (if bit m 0 then 1 else 0) + (if bit m 1 then 1 else 0) + (if bit m 2 then 1 else 0) := rfl
      -- one field
      have one : ∀ (i : Nat) (p : Ty) (q : Nat × Nat × Nat), nlb m = 1 → 1 ≤ tch p → q ∈ fug F (tch p) → tch p + 3 ≤ 38 → rch m = 3 → FM3 t0 n1 s2 h x0 w lv (tRec m x y z) q.1 q.2.1 (n1 (8 + m) + q.2.2) → ∃ p' ∈ fug F (tch p + 3), FM3 t0 n1 s2 h x0 w lv (tRec m x y z) p'.1 p'.2.1 p'.2.2 := by
        intro i p q e1 h1 hq hk3 _ g
        rw [if_neg (by omega), if_pos e1] at hn
        exact fin (g.mono (Nat.le_refl _) (Nat.le_refl _) (show n1 (8 + m) + q.2.2 ≤ r1 + q.2.2 by omega)) (fuc_1 hc h1 hk3 hq)
      have two : ∀ (p p' : Ty) (q q' : Nat × Nat × Nat), nlb m = 2 → 1 ≤ tch p → 1 ≤ tch p' → q ∈ fug F (tch p) → q' ∈ fug F (tch p') → tch p + tch p' + 5 ≤ 38 → FM3 t0 n1 s2 h x0 w lv (tRec m x y z) (q.1 + q'.1) (q.2.1 + q'.2.1) (n1 (8 + m) + (q.2.2 + q'.2.2)) → ∃ v ∈ fug F (tch p + tch p' + 5), FM3 t0 n1 s2 h x0 w lv (tRec m x y z) v.1 v.2.1 v.2.2 := by
        intro p p' q q' e1 h1 h1' hq hq' hk3 g
        rw [if_neg (by omega), if_neg (by omega), if_pos e1] at hn
        obtain ⟨v, hv', g0, g1, g2⟩ := dom3_ex (fuc_g hc h1 h1' (by omega) q hq q' hq')
        exact fin (g.mono g0 g1 (show n1 (8 + m) + (q.2.2 + q'.2.2) ≤ r2 + v.2.2 by omega)) (fuc_2 hc (by omega) hk3 hv')
      have rc1 : nlb m = 1 → rch m = 3 := by
        intro e1
        unfold rch
        have : m ≠ 0 := by intro h0'; subst h0'; exact absurd e1 (by decide)
        rw [if_neg this, e1]
      have rc2 : nlb m = 2 → rch m = 5 := by
        intro e1
        unfold rch
        have : m ≠ 0 := by intro h0'; subst h0'; exact absurd e1 (by decide)
        rw [if_neg this, e1]
      have rc3 : nlb m = 3 → rch m = 7 := by
        intro e1
        unfold rch
        have : m ≠ 0 := by intro h0'; subst h0'; exact absurd e1 (by decide)
        rw [if_neg this, e1]
      by_cases b0 : bit m 0 = true
      · by_cases b1 : bit m 1 = true
        · by_cases b2 : bit m 2 = true
          · rw [if_pos b0, if_pos b1, if_pos b2] at nb
            have nb : nlb m = 3 := nb
            rw [rc3 nb] at hk ⊢
            obtain ⟨x1, p, hp, fp⟩ := ih 0 x (by omega) h0 b0 (by omega)
            obtain ⟨y1, q, hq, fq⟩ := ih 1 y (by omega) h1 b1 (by omega)
            obtain ⟨z1, r, hr', fr⟩ := ih 2 z (by omega) h2 b2 (by omega)
            obtain ⟨v, hv', g0, g1, g2⟩ := dom3_ex (fuc_g hc x1 y1 (by omega) p hp q hq)
            rw [if_neg (by omega), if_neg (by omega), if_neg (by omega)] at hn
            have g := FM3_rec (t0 := t0) (n1 := n1) (s2 := s2) (h := h) (x0 := x0) (w := w) (r := lv) (x := x) (y := y) (z := z) hm (fun _ => fp) (fun _ => fq) (fun _ => fr)
            rw [show 7 + (tch x + (tch y + tch z)) = (tch x + tch y) + tch z + 7 by omega]
            exact fin (g.mono (show p.1 + (q.1 + r.1) ≤ v.1 + r.1 by omega) (show p.2.1 + (q.2.1 + r.2.1) ≤ v.2.1 + r.2.1 by omega) (show n1 (8 + m) + (p.2.2 + (q.2.2 + r.2.2)) ≤ r3 + (v.2.2 + r.2.2) by omega)) ((fuc_p hc (by omega) z1).2 (by omega) v hv' r hr')
          · rw [if_pos b0, if_pos b1, if_neg b2] at nb
            have nb : nlb m = 2 := nb
            have e2 := nil 2 z h2 b2
            rw [rc2 nb] at hk ⊢
            obtain ⟨x1, p, hp, fp⟩ := ih 0 x (by omega) h0 b0 (by omega)
            obtain ⟨y1, q, hq, fq⟩ := ih 1 y (by omega) h1 b1 (by omega)
            have g := FM3_rec (t0 := t0) (n1 := n1) (s2 := s2) (h := h) (x0 := x0) (w := w) (r := lv) (x := x) (y := y) (z := z) (p2 := 0) (l2 := 0) (c2 := 0) hm (fun _ => fp) (fun _ => fq) (fun b => absurd b b2)
            rw [show 5 + (tch x + (tch y + tch z)) = tch x + tch y + 5 by omega]
            exact two x y p q nb x1 y1 hp hq (by omega) (g.mono (by omega) (by omega) (by omega))
        · by_cases b2 : bit m 2 = true
          · rw [if_pos b0, if_neg b1, if_pos b2] at nb
            have nb : nlb m = 2 := nb
            have e1 := nil 1 y h1 b1
            rw [rc2 nb] at hk ⊢
            obtain ⟨x1, p, hp, fp⟩ := ih 0 x (by omega) h0 b0 (by omega)
            obtain ⟨z1, r, hr', fr⟩ := ih 2 z (by omega) h2 b2 (by omega)
            have g := FM3_rec (t0 := t0) (n1 := n1) (s2 := s2) (h := h) (x0 := x0) (w := w) (r := lv) (x := x) (y := y) (z := z) (p1 := 0) (l1 := 0) (c1 := 0) hm (fun _ => fp) (fun b => absurd b b1) (fun _ => fr)
            rw [show 5 + (tch x + (tch y + tch z)) = tch x + tch z + 5 by omega]
            exact two x z p r nb x1 z1 hp hr' (by omega) (g.mono (by omega) (by omega) (by omega))
          · rw [if_pos b0, if_neg b1, if_neg b2] at nb
            have nb : nlb m = 1 := nb
            have e1 := nil 1 y h1 b1
            have e2 := nil 2 z h2 b2
            rw [rc1 nb] at hk ⊢
            obtain ⟨x1, p, hp, fp⟩ := ih 0 x (by omega) h0 b0 (by omega)
            have g := FM3_rec (t0 := t0) (n1 := n1) (s2 := s2) (h := h) (x0 := x0) (w := w) (r := lv) (x := x) (y := y) (z := z) (p1 := 0) (l1 := 0) (c1 := 0) (p2 := 0) (l2 := 0) (c2 := 0) hm (fun _ => fp) (fun b => absurd b b1) (fun b => absurd b b2)
            rw [show 3 + (tch x + (tch y + tch z)) = tch x + 3 by omega]
            exact one 0 x p nb x1 hp (by omega) (rc1 nb) (g.mono (by omega) (by omega) (by omega))
      · by_cases b1 : bit m 1 = true
        · have e0 := nil 0 x h0 b0
          by_cases b2 : bit m 2 = true
          · rw [if_neg b0, if_pos b1, if_pos b2] at nb
            have nb : nlb m = 2 := nb
            rw [rc2 nb] at hk ⊢
            obtain ⟨y1, q, hq, fq⟩ := ih 1 y (by omega) h1 b1 (by omega)
            obtain ⟨z1, r, hr', fr⟩ := ih 2 z (by omega) h2 b2 (by omega)
            have g := FM3_rec (t0 := t0) (n1 := n1) (s2 := s2) (h := h) (x0 := x0) (w := w) (r := lv) (x := x) (y := y) (z := z) (p0 := 0) (l0 := 0) (c0 := 0) hm (fun b => absurd b b0) (fun _ => fq) (fun _ => fr)
            rw [show 5 + (tch x + (tch y + tch z)) = tch y + tch z + 5 by omega]
            exact two y z q r nb y1 z1 hq hr' (by omega) (g.mono (by omega) (by omega) (by omega))
          · rw [if_neg b0, if_pos b1, if_neg b2] at nb
            have nb : nlb m = 1 := nb
            have e2 := nil 2 z h2 b2
            rw [rc1 nb] at hk ⊢
            obtain ⟨y1, q, hq, fq⟩ := ih 1 y (by omega) h1 b1 (by omega)
            have g := FM3_rec (t0 := t0) (n1 := n1) (s2 := s2) (h := h) (x0 := x0) (w := w) (r := lv) (x := x) (y := y) (z := z) (p0 := 0) (l0 := 0) (c0 := 0) (p2 := 0) (l2 := 0) (c2 := 0) hm (fun b => absurd b b0) (fun _ => fq) (fun b => absurd b b2)
            rw [show 3 + (tch x + (tch y + tch z)) = tch y + 3 by omega]
            exact one 1 y q nb y1 hq (by omega) (rc1 nb) (g.mono (by omega) (by omega) (by omega))
        · have e0 := nil 0 x h0 b0
          have e1 := nil 1 y h1 b1
          by_cases b2 : bit m 2 = true
          · rw [if_neg b0, if_neg b1, if_pos b2] at nb
            have nb : nlb m = 1 := nb
            rw [rc1 nb] at hk ⊢
            obtain ⟨z1, r, hr', fr⟩ := ih 2 z (by omega) h2 b2 (by omega)
            have g := FM3_rec (t0 := t0) (n1 := n1) (s2 := s2) (h := h) (x0 := x0) (w := w) (r := lv) (x := x) (y := y) (z := z) (p0 := 0) (l0 := 0) (c0 := 0) (p1 := 0) (l1 := 0) (c1 := 0) hm (fun b => absurd b b0) (fun b => absurd b b1) (fun _ => fr)
            rw [show 3 + (tch x + (tch y + tch z)) = tch z + 3 by omega]
            exact one 2 z r nb z1 hr' (by omega) (rc1 nb) (g.mono (by omega) (by omega) (by omega))
          · rw [if_neg b0, if_neg b1, if_neg b2] at nb
            have nb : nlb m = 0 := nb
            have e2 := nil 2 z h2 b2
            have em : m = 0 := by
              rcases nlb_cases m hm with h' | h' | h' | h'
              · exact h'.2
              · omega
              · omega
              · omega
            have rc0 : rch m = 2 := by unfold rch; rw [if_pos em]
            rw [rc0] at hk ⊢
            have g := FM3_rec (t0 := t0) (n1 := n1) (s2 := s2) (h := h) (x0 := x0) (w := w) (r := lv) (x := x) (y := y) (z := z) (p0 := 0) (l0 := 0) (c0 := 0) (p1 := 0) (l1 := 0) (c1 := 0) (p2 := 0) (l2 := 0) (c2 := 0) hm (fun b => absurd b b0) (fun b => absurd b b1) (fun b => absurd b b2)
            rw [if_pos nb] at hn
            rw [show 2 + (tch x + (tch y + tch z)) = 2 by omega]
            exact fin (g.mono (Nat.le_refl _) (Nat.le_refl _) (show n1 (8 + m) + (0 + (0 + 0)) ≤ r0 by omega)) ((fuc_0 hc (by decide) (by decide)).2.2.2.1 (by decide))
end PmNe
