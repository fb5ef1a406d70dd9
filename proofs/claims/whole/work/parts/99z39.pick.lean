/-! A BOUND WITH A SCHEME INSIDE: the longest one that operations reach is counted exactly, what stands around it by characters. -/
section PmHj
variable {P Q : Ty → Prop}
theorem IS2_funI {a b : Ty} (h : IS2 P b) : IS2 P (tFun a b) := by
  unfold tFun
  rw [IS2, if_neg (by decide), if_pos rfl]
  exact h
theorem IS2_allI {a b : Ty} (h : P (tAll a b)) : IS2 P (tAll a b) := by
  unfold tAll
  rw [IS2, if_pos rfl]
  exact h
theorem IS2_recI {m : Nat} {x y z : Ty} (h : IS2 P x ∧ IS2 P y ∧ IS2 P z) : IS2 P (tRec m x y z) := by
  unfold tRec
  rw [IS2, if_neg (by omega), if_neg (by omega), IS2]
  exact h
theorem IS2_nil : IS2 P .nil := by simp [IS2]
theorem IS2_top : IS2 P tTop := by simp [tTop, IS2]
theorem IS2_var (k : Nat) : IS2 P (tVar k) := by simp [tVar, IS2]
theorem IS2_okt : ∀ (f d : Nat) (b : Ty), (flat b).length ≤ f → ok d b = true → (∀ s, ok d s = true → tch s ≤ tch b → (∀ (t0 : Nat) (n1 : Nat → Nat) (s2 : Nat) (h : Nat → Nat) (ω : List Nat), nz t0 n1 s2 h ω s ≤ nz t0 n1 s2 h ω b) → P s → Q s) → IS2 P b → IS2 Q b
  | 0, d, b, hf, o, _, _ => by have := flat_pos o; omega
  | f + 1, d, b, hf, o, hq, hi => by
    rcases ok_cases o with rfl | ⟨j, hj, rfl⟩ | ⟨a, c, rfl, ha, hb⟩ | ⟨a, c, rfl, ha, hb⟩ | ⟨m, x, y, z, hm, rfl, h0, h1, h2⟩
    · exact IS2_top
    · exact IS2_var j
    · rw [flat_fun, List.length_cons, List.length_append] at hf
      refine IS2_funI (IS2_okt f d c (by omega) hb (fun s o1 t1 n2 p => hq s o1 (by rw [tch_fun]; omega) (fun t0 n1 s2 h ω => by have := n2 t0 n1 s2 h ω; rw [nz_fun]; omega) p) (IS2_fun hi))
    · exact IS2_allI (hq _ o (Nat.le_refl _) (fun _ _ _ _ _ => Nat.le_refl _) (IS2_all hi))
    · rw [flat_rec, List.length_cons, List.length_append, List.length_append] at hf
      obtain ⟨i0, i1, i2⟩ := IS2_rec hi
      have key : ∀ (i : Nat) (u : Ty), okl d m i u → (flat u).length ≤ f → tch u ≤ tch x + (tch y + tch z) → (∀ (t0 : Nat) (n1 : Nat → Nat) (s2 : Nat) (h : Nat → Nat) (ω : List Nat), nz t0 n1 s2 h ω u ≤ nz t0 n1 s2 h ω x + (nz t0 n1 s2 h ω y + nz t0 n1 s2 h ω z)) → IS2 P u → IS2 Q u := by
        intro i u ou lu tu nu iu
        unfold okl at ou
        by_cases hb : bit m i = true
        · rw [if_pos hb] at ou
          exact IS2_okt f d u lu ou (fun s o1 t1 n2 p => hq s o1 (by rw [tch_rec]; omega) (fun t0 n1 s2 h ω => by have a1 := n2 t0 n1 s2 h ω; have a2 := nu t0 n1 s2 h ω; rw [nz_rec]; omega) p) iu
        · rw [if_neg hb] at ou
          rw [ou]; exact IS2_nil
      exact IS2_recI ⟨key 0 x h0 (by omega) (by omega) (fun _ _ _ _ _ => by omega) i0, key 1 y h1 (by omega) (by omega) (fun _ _ _ _ _ => by omega) i1, key 2 z h2 (by omega) (by omega) (fun _ _ _ _ _ => by omega) i2⟩
theorem IS2_okl {d m i : Nat} {u : Ty} (ou : okl d m i u) (hq : bit m i = true → ∀ s, ok d s = true → tch s ≤ tch u → (∀ (t0 : Nat) (n1 : Nat → Nat) (s2 : Nat) (h : Nat → Nat) (ω : List Nat), nz t0 n1 s2 h ω s ≤ nz t0 n1 s2 h ω u) → P s → Q s) (hi : IS2 P u) : IS2 Q u := by
  unfold okl at ou
  by_cases hb : bit m i = true
  · rw [if_pos hb] at ou
    exact IS2_okt _ d u (Nat.le_refl _) ou (hq hb) hi
  · rw [if_neg hb] at ou
    rw [ou]; exact IS2_nil
end PmHj
/-- the others that operations reach -/
def DSo (d : Nat) (σ b s : Ty) : Prop := s = σ ∨ (ok d s = true ∧ tch (k2 s) ≤ tch (k2 σ) ∧ tch s + tch σ + 5 ≤ tch b ∧ ∀ (t0 : Nat) (n1 : Nat → Nat) (s2 : Nat) (h : Nat → Nat) (ω : List Nat), nz t0 n1 s2 h ω s ≤ nz t0 n1 s2 h ω b)
/-- the scheme σ stands in b, b' is what stands around it -/
def DSp (d : Nat) (σ b' b : Ty) : Prop := ok d b' = true ∧ ok d σ = true ∧ tch b' + tch σ ≤ tch b + 1 ∧ (∀ (t0 : Nat) (n1 : Nat → Nat) (s2 : Nat) (h : Nat → Nat) (ω : List Nat), nz t0 n1 s2 h ω b ≤ nz t0 n1 s2 h ω σ + nz t0 n1 s2 h ω b') ∧ IS2 (DSo d σ b) b
section PmHk
variable {d m i : Nat} {x y z σ u u' : Ty}
theorem rch_ij (m : Nat) (hm : m < 8) (i : Nat) (hi : i < 3) (j : Nat) (hj : j < 3) : i ≠ j → bit m i = true → bit m j = true → 5 ≤ rch m := by
  rcases (show m = 0 ∨ m = 1 ∨ m = 2 ∨ m = 3 ∨ m = 4 ∨ m = 5 ∨ m = 6 ∨ m = 7 by omega) with rfl | rfl | rfl | rfl | rfl | rfl | rfl | rfl <;> rcases (show i = 0 ∨ i = 1 ∨ i = 2 by omega) with rfl | rfl | rfl <;> rcases (show j = 0 ∨ j = 1 ∨ j = 2 by omega) with rfl | rfl | rfl <;> decide
theorem k2_tAll (a b : Ty) : k2 (tAll a b) = b := rfl
theorem DSp.ch (h : DSp d σ u' u) : tch σ ≤ tch u := by
  have := tch_pos h.1
  have := h.2.2.1
  omega
theorem DSp.is (h : DSp d σ u' u) (o : okl d m i u) : IS2 (fun s => tch (k2 s) ≤ tch (k2 σ)) u := IS2_okl o (fun _ s _ _ _ p => by
  rcases p with rfl | p
  · exact Nat.le_refl _
  · exact p.2.1) h.2.2.2.2
theorem DSn.is {k : Nat} (h : IS2 (fun _ => False) u) (o : okl d m i u) : IS2 (fun s => tch (k2 s) ≤ k) u := IS2_okl o (fun _ s _ _ _ p => p.elim) h
theorem ds_rec0 (hm : m < 8) (h0 : okl d m 0 x) (h1 : okl d m 1 y) (h2 : okl d m 2 z) (h : DSp d σ u' x) (ia : IS2 (fun s => tch (k2 s) ≤ tch (k2 σ)) y) (ib : IS2 (fun s => tch (k2 s) ≤ tch (k2 σ)) z) : DSp d σ (tRec m u' y z) (tRec m x y z) := by
  have hc := h.ch
  have ps := tch_pos h.2.1
  have hb : bit m 0 = true := by
    by_cases q : bit m 0 = true
    · exact q
    · have h0' := h0
      unfold okl at h0'
      rw [if_neg q] at h0'
      rw [h0', tch_nil] at hc
      omega
  obtain ⟨o1, o2, c1, n1', is⟩ := h
  have ou : okl d m 0 u' := by
    unfold okl
    rw [if_pos hb]
    exact o1
  refine ⟨(ok_rec hm).mpr ⟨ou, h1, h2⟩, o2, ?_, fun t0 n1 s2 h ω => ?_, IS2_recI ⟨?_, ?_, ?_⟩⟩
  · rw [tch_rec, tch_rec]
    omega
  · have := n1' t0 n1 s2 h ω
    rw [nz_rec, nz_rec]
    omega
  · refine IS2_okl h0 (fun _ s o3 t3 n3 p => ?_) is
    rcases p with p | ⟨p1, p2, p3, p4⟩
    · exact Or.inl p
    · exact Or.inr ⟨p1, p2, by rw [tch_rec]; omega, fun t0 n1 s2 h ω => by have := n3 t0 n1 s2 h ω; rw [nz_rec]; omega⟩
  · refine IS2_okl h1 (fun hj s o3 t3 n3 p => ?_) ia
    have r5 := rch_ij m hm 0 (by decide) 1 (by decide) (by decide) hb hj
    exact Or.inr ⟨o3, p, by rw [tch_rec]; omega, fun t0 n1 s2 h ω => by have := n3 t0 n1 s2 h ω; rw [nz_rec]; omega⟩
  · refine IS2_okl h2 (fun hj s o3 t3 n3 p => ?_) ib
    have r5 := rch_ij m hm 0 (by decide) 2 (by decide) (by decide) hb hj
    exact Or.inr ⟨o3, p, by rw [tch_rec]; omega, fun t0 n1 s2 h ω => by have := n3 t0 n1 s2 h ω; rw [nz_rec]; omega⟩
theorem ds_rec1 (hm : m < 8) (h0 : okl d m 0 x) (h1 : okl d m 1 y) (h2 : okl d m 2 z) (h : DSp d σ u' y) (ia : IS2 (fun s => tch (k2 s) ≤ tch (k2 σ)) x) (ib : IS2 (fun s => tch (k2 s) ≤ tch (k2 σ)) z) : DSp d σ (tRec m x u' z) (tRec m x y z) := by
  have hc := h.ch
  have ps := tch_pos h.2.1
  have hb : bit m 1 = true := by
    by_cases q : bit m 1 = true
    · exact q
    · have h1' := h1
      unfold okl at h1'
      rw [if_neg q] at h1'
      rw [h1', tch_nil] at hc
      omega
  obtain ⟨o1, o2, c1, n1', is⟩ := h
  have ou : okl d m 1 u' := by
    unfold okl
    rw [if_pos hb]
    exact o1
  refine ⟨(ok_rec hm).mpr ⟨h0, ou, h2⟩, o2, ?_, fun t0 n1 s2 h ω => ?_, IS2_recI ⟨?_, ?_, ?_⟩⟩
  · rw [tch_rec, tch_rec]
    omega
  · have := n1' t0 n1 s2 h ω
    rw [nz_rec, nz_rec]
    omega
  · refine IS2_okl h0 (fun hj s o3 t3 n3 p => ?_) ia
    have r5 := rch_ij m hm 1 (by decide) 0 (by decide) (by decide) hb hj
    exact Or.inr ⟨o3, p, by rw [tch_rec]; omega, fun t0 n1 s2 h ω => by have := n3 t0 n1 s2 h ω; rw [nz_rec]; omega⟩
  · refine IS2_okl h1 (fun _ s o3 t3 n3 p => ?_) is
    rcases p with p | ⟨p1, p2, p3, p4⟩
    · exact Or.inl p
    · exact Or.inr ⟨p1, p2, by rw [tch_rec]; omega, fun t0 n1 s2 h ω => by have := n3 t0 n1 s2 h ω; rw [nz_rec]; omega⟩
  · refine IS2_okl h2 (fun hj s o3 t3 n3 p => ?_) ib
    have r5 := rch_ij m hm 1 (by decide) 2 (by decide) (by decide) hb hj
    exact Or.inr ⟨o3, p, by rw [tch_rec]; omega, fun t0 n1 s2 h ω => by have := n3 t0 n1 s2 h ω; rw [nz_rec]; omega⟩
theorem ds_rec2 (hm : m < 8) (h0 : okl d m 0 x) (h1 : okl d m 1 y) (h2 : okl d m 2 z) (h : DSp d σ u' z) (ia : IS2 (fun s => tch (k2 s) ≤ tch (k2 σ)) x) (ib : IS2 (fun s => tch (k2 s) ≤ tch (k2 σ)) y) : DSp d σ (tRec m x y u') (tRec m x y z) := by
  have hc := h.ch
  have ps := tch_pos h.2.1
  have hb : bit m 2 = true := by
    by_cases q : bit m 2 = true
    · exact q
    · have h2' := h2
      unfold okl at h2'
      rw [if_neg q] at h2'
      rw [h2', tch_nil] at hc
      omega
  obtain ⟨o1, o2, c1, n1', is⟩ := h
  have ou : okl d m 2 u' := by
    unfold okl
    rw [if_pos hb]
    exact o1
  refine ⟨(ok_rec hm).mpr ⟨h0, h1, ou⟩, o2, ?_, fun t0 n1 s2 h ω => ?_, IS2_recI ⟨?_, ?_, ?_⟩⟩
  · rw [tch_rec, tch_rec]
    omega
  · have := n1' t0 n1 s2 h ω
    rw [nz_rec, nz_rec]
    omega
  · refine IS2_okl h0 (fun hj s o3 t3 n3 p => ?_) ia
    have r5 := rch_ij m hm 2 (by decide) 0 (by decide) (by decide) hb hj
    exact Or.inr ⟨o3, p, by rw [tch_rec]; omega, fun t0 n1 s2 h ω => by have := n3 t0 n1 s2 h ω; rw [nz_rec]; omega⟩
  · refine IS2_okl h1 (fun hj s o3 t3 n3 p => ?_) ib
    have r5 := rch_ij m hm 2 (by decide) 1 (by decide) (by decide) hb hj
    exact Or.inr ⟨o3, p, by rw [tch_rec]; omega, fun t0 n1 s2 h ω => by have := n3 t0 n1 s2 h ω; rw [nz_rec]; omega⟩
  · refine IS2_okl h2 (fun _ s o3 t3 n3 p => ?_) is
    rcases p with p | ⟨p1, p2, p3, p4⟩
    · exact Or.inl p
    · exact Or.inr ⟨p1, p2, by rw [tch_rec]; omega, fun t0 n1 s2 h ω => by have := n3 t0 n1 s2 h ω; rw [nz_rec]; omega⟩
def DSx (σ b' b : Ty) : Prop := (tch σ = tch b → b' = tTop) ∧ (noal b = true → noal σ = true)
theorem dsx0 {v' : Ty} (h : DSp d σ u' x) (g : DSx σ u' x) : DSx σ v' (tRec m x y z) := by
  have hc := h.ch
  have r1 : 1 ≤ rch m := by unfold rch; split <;> omega
  refine ⟨fun e => ?_, fun e => ?_⟩
  · rw [tch_rec] at e
    omega
  · rw [noal_rec, Bool.and_eq_true, Bool.and_eq_true] at e
    exact g.2 e.1
theorem dsx1 {v' : Ty} (h : DSp d σ u' y) (g : DSx σ u' y) : DSx σ v' (tRec m x y z) := by
  have hc := h.ch
  have r1 : 1 ≤ rch m := by unfold rch; split <;> omega
  refine ⟨fun e => ?_, fun e => ?_⟩
  · rw [tch_rec] at e
    omega
  · rw [noal_rec, Bool.and_eq_true, Bool.and_eq_true] at e
    exact g.2 e.2.1
theorem dsx2 {v' : Ty} (h : DSp d σ u' z) (g : DSx σ u' z) : DSx σ v' (tRec m x y z) := by
  have hc := h.ch
  have r1 : 1 ≤ rch m := by unfold rch; split <;> omega
  refine ⟨fun e => ?_, fun e => ?_⟩
  · rw [tch_rec] at e
    omega
  · rw [noal_rec, Bool.and_eq_true, Bool.and_eq_true] at e
    exact g.2 e.2.2
theorem ds_pick : ∀ (f d : Nat) (b : Ty), (flat b).length ≤ f → ok d b = true → IS2 (fun _ => False) b ∨ ∃ B C b', DSp d (tAll B C) b' b ∧ DSx (tAll B C) b' b
  | 0, d, b, hf, o => by have := flat_pos o; omega
  | f + 1, d, b, hf, o => by
    rcases ok_cases o with rfl | ⟨j, hj, rfl⟩ | ⟨a, c, rfl, ha, hb⟩ | ⟨a, c, rfl, ha, hb⟩ | ⟨m, x, y, z, hm, rfl, h0, h1, h2⟩
    · exact Or.inl IS2_top
    · exact Or.inl (IS2_var j)
    · rw [flat_fun, List.length_cons, List.length_append] at hf
      rcases ds_pick f d c (by omega) hb with q | ⟨B, C, b', q, qx⟩
      · exact Or.inl (IS2_funI q)
      · have qc := q.ch
        obtain ⟨o1, o2, c1, n1', is⟩ := q
        refine Or.inr ⟨B, C, tFun a b', ⟨ok_fun.mpr ⟨ha, o1⟩, o2, by rw [tch_fun, tch_fun]; omega, fun t0 n1 s2 h ω => ?_, IS2_funI (IS2_okt _ d c (Nat.le_refl _) hb (fun s o3 t3 n3 p => ?_) is)⟩, fun e => by rw [tch_fun] at e; omega, fun e => by rw [noal_fun, Bool.and_eq_true] at e; exact qx.2 e.2⟩
        · have := n1' t0 n1 s2 h ω
          rw [nz_fun, nz_fun]
          omega
        · rcases p with p | ⟨p1, p2, p3, p4⟩
          · exact Or.inl p
          · exact Or.inr ⟨p1, p2, by rw [tch_fun]; omega, fun t0 n1 s2 h ω => by have := n3 t0 n1 s2 h ω; rw [nz_fun]; omega⟩
    · exact Or.inr ⟨a, c, tTop, ⟨ok_top d, o, by rw [tch_top]; omega, fun t0 n1 s2 h ω => Nat.le_add_right _ _, IS2_allI (Or.inl rfl)⟩, fun _ => rfl, fun e => e⟩
    · rw [flat_rec, List.length_cons, List.length_append, List.length_append] at hf
      have fld : ∀ (i : Nat) (u : Ty), okl d m i u → (flat u).length ≤ f → IS2 (fun _ => False) u ∨ ∃ B C b', DSp d (tAll B C) b' u ∧ DSx (tAll B C) b' u := by
        intro i u ou lu
        unfold okl at ou
        by_cases hb : bit m i = true
        · rw [if_pos hb] at ou
          exact ds_pick f d u lu ou
        · rw [if_neg hb] at ou
          rw [ou]; exact Or.inl IS2_nil
      rcases fld 0 x h0 (by omega) with p | ⟨B0, C0, x', p, px⟩
      · rcases fld 1 y h1 (by omega) with q | ⟨B1, C1, y', q, qx⟩
        · rcases fld 2 z h2 (by omega) with r | ⟨B2, C2, z', r, rx⟩
          · exact Or.inl (IS2_recI ⟨p, q, r⟩)
          · exact Or.inr ⟨B2, C2, _, ds_rec2 hm h0 h1 h2 r (DSn.is p h0) (DSn.is q h1), dsx2 r rx⟩
        · rcases fld 2 z h2 (by omega) with r | ⟨B2, C2, z', r, rx⟩
          · exact Or.inr ⟨B1, C1, _, ds_rec1 hm h0 h1 h2 q (DSn.is p h0) (DSn.is r h2), dsx1 q qx⟩
          · by_cases l : tch C2 ≤ tch C1
            · exact Or.inr ⟨B1, C1, _, ds_rec1 hm h0 h1 h2 q (DSn.is p h0) (IS2_okl h2 (fun _ s _ _ _ e => Nat.le_trans e l) (r.is h2)), dsx1 q qx⟩
            · exact Or.inr ⟨B2, C2, _, ds_rec2 hm h0 h1 h2 r (DSn.is p h0) (IS2_okl h1 (fun _ s _ _ _ e => Nat.le_trans e (by rw [k2_tAll, k2_tAll]; omega)) (q.is h1)), dsx2 r rx⟩
      · rcases fld 1 y h1 (by omega) with q | ⟨B1, C1, y', q, qx⟩
        · rcases fld 2 z h2 (by omega) with r | ⟨B2, C2, z', r, rx⟩
          · exact Or.inr ⟨B0, C0, _, ds_rec0 hm h0 h1 h2 p (DSn.is q h1) (DSn.is r h2), dsx0 p px⟩
          · by_cases l : tch C2 ≤ tch C0
            · exact Or.inr ⟨B0, C0, _, ds_rec0 hm h0 h1 h2 p (DSn.is q h1) (IS2_okl h2 (fun _ s _ _ _ e => Nat.le_trans e l) (r.is h2)), dsx0 p px⟩
            · exact Or.inr ⟨B2, C2, _, ds_rec2 hm h0 h1 h2 r (IS2_okl h0 (fun _ s _ _ _ e => Nat.le_trans e (by rw [k2_tAll, k2_tAll]; omega)) (p.is h0)) (DSn.is q h1), dsx2 r rx⟩
        · rcases fld 2 z h2 (by omega) with r | ⟨B2, C2, z', r, rx⟩
          · by_cases l : tch C1 ≤ tch C0
            · exact Or.inr ⟨B0, C0, _, ds_rec0 hm h0 h1 h2 p (IS2_okl h1 (fun _ s _ _ _ e => Nat.le_trans e l) (q.is h1)) (DSn.is r h2), dsx0 p px⟩
            · exact Or.inr ⟨B1, C1, _, ds_rec1 hm h0 h1 h2 q (IS2_okl h0 (fun _ s _ _ _ e => Nat.le_trans e (by rw [k2_tAll, k2_tAll]; omega)) (p.is h0)) (DSn.is r h2), dsx1 q qx⟩
          · by_cases l : tch C1 ≤ tch C0
            · by_cases l2 : tch C2 ≤ tch C0
              · exact Or.inr ⟨B0, C0, _, ds_rec0 hm h0 h1 h2 p (IS2_okl h1 (fun _ s _ _ _ e => Nat.le_trans e l) (q.is h1)) (IS2_okl h2 (fun _ s _ _ _ e => Nat.le_trans e l2) (r.is h2)), dsx0 p px⟩
              · exact Or.inr ⟨B2, C2, _, ds_rec2 hm h0 h1 h2 r (IS2_okl h0 (fun _ s _ _ _ e => Nat.le_trans e (by rw [k2_tAll, k2_tAll]; omega)) (p.is h0)) (IS2_okl h1 (fun _ s _ _ _ e => Nat.le_trans e (by rw [k2_tAll, k2_tAll]; omega)) (q.is h1)), dsx2 r rx⟩
            · by_cases l2 : tch C2 ≤ tch C1
              · exact Or.inr ⟨B1, C1, _, ds_rec1 hm h0 h1 h2 q (IS2_okl h0 (fun _ s _ _ _ e => Nat.le_trans e (by rw [k2_tAll, k2_tAll]; omega)) (p.is h0)) (IS2_okl h2 (fun _ s _ _ _ e => Nat.le_trans e l2) (r.is h2)), dsx1 q qx⟩
              · exact Or.inr ⟨B2, C2, _, ds_rec2 hm h0 h1 h2 r (IS2_okl h0 (fun _ s _ _ _ e => Nat.le_trans e (by rw [k2_tAll, k2_tAll]; omega)) (p.is h0)) (IS2_okl h1 (fun _ s _ _ _ e => Nat.le_trans e (by rw [k2_tAll, k2_tAll]; omega)) (q.is h1)), dsx2 r rx⟩
end PmHk
