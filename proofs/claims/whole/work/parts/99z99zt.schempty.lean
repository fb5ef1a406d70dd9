/-! SCHEMES UNDER THE BOUND []: own-kind flags. -/
theorem shp_hd9 {d d' : Nat} {a b : Ty} (oa : ok d a = true) (ob : ok d' b = true) (e : shp a = shp b) (h : hd b < 16) : hd a = hd b := by
  have first : ∀ {d : Nat} {t : Ty}, ok d t = true → ∃ l, shp t = (if 16 ≤ hd t then (16 : Int) else (hd t : Int)) :: l := by
    intro d t o
    rcases ok_cases o with rfl | ⟨j, hj, rfl⟩ | ⟨x, y, rfl, hx, hy⟩ | ⟨x, y, rfl, hx, hy⟩ | ⟨m, x, y, z, hm, rfl, h0, h1, h2⟩
    · exact ⟨[], rfl⟩
    · refine ⟨[], ?_⟩
      unfold shp
      rw [show flat (tVar j) = [((16 + j : Nat) : Int)] from rfl, hd_var, if_pos (by omega), List.map_cons, if_pos (by omega)]
      rfl
    · unfold shp
      rw [flat_fun, hd_fun]
      exact ⟨_, rfl⟩
    · unfold shp
      rw [flat_all, hd_all]
      exact ⟨_, rfl⟩
    · unfold shp
      rw [flat_rec, hd_rec, List.map_cons, if_neg (by omega), if_neg (by omega)]
      exact ⟨_, rfl⟩
  obtain ⟨l1, e1⟩ := first oa
  obtain ⟨l2, e2⟩ := first ob
  rw [e1, e2] at e
  injection e with e3 e4
  rw [if_neg (show ¬ 16 ≤ hd b by omega)] at e3
  by_cases c : 16 ≤ hd a
  · rw [if_pos c] at e3
    omega
  · rw [if_neg c] at e3
    omega
def sg9 (b c : Ty) : Bool := decide (hd c = 2) && decide (hd (k1 c) = hd b)
def kin9 (e f : Ty) : Bool := if hd e = 2 then decide (hd f = 2) else decide (kdt f = kdt e)
def rhq (b e a c : Ty) : Bool := decide (hd a = 8) && (sg9 b c && (kin9 e (k2 c) || (decide (16 ≤ hd (k2 c)) || decide (hd (k2 c) = 0))))
def rhqw (b a c : Ty) : Bool := sg9 b a && php rho8 c
section PmT0
variable {C : Ty} {d0 d : Nat}
theorem kmr_ns {f : Ty} (hC : hd C = 2) (o : ok d f = true) (h0 : hd f ≠ 0) (h16 : hd f < 16) (h2 : hd f ≠ 2) : kmr C f = true := by
  unfold kmr
  rw [kms_ns hC o h0 h16 h2]
  rfl
theorem kmr_sh {x y : Ty} (hC : hd C = 2) (ne : shp x ≠ shp (k1 C)) : kmr C (tAll x y) = true := by
  unfold kmr
  rw [kms_sh hC ne]
  rfl
theorem gkr_ns {a : Ty} (hC : hd C = 2) (o : ok d a = true) (h16 : hd a < 16) (h2 : hd a ≠ 2) : gkr C a = true := by
  unfold gkr
  rw [Bool.or_eq_true, Bool.and_eq_true, decide_eq_true_iff, decide_eq_true_iff]
  by_cases h0 : hd a = 0
  · exact Or.inl h0
  · exact Or.inr ⟨h16, kmr_ns hC o h0 h16 h2⟩
theorem gkr_sh {x y : Ty} (hC : hd C = 2) (ne : shp x ≠ shp (k1 C)) : gkr C (tAll x y) = true := by
  unfold gkr
  rw [Bool.or_eq_true, Bool.and_eq_true, decide_eq_true_iff, decide_eq_true_iff]
  exact Or.inr ⟨by rw [hd_all]; omega, kmr_sh hC ne⟩
/-- what is no longer than the bound -/
theorem kpA (hC : hd C = 2) : ∀ (n : Nat) (t : Ty) (D : Nat) (τ : Nat → Bool), (flat t).length ≤ n → ok D t = true → noal t = true → (flat t).length ≤ (flat (k1 C)).length → (∀ i, i < D → τ i = true) → kp9 C (tqN tR0 d0) (kmt C) τ D t = true
  | 0, t, D, _, hf, o, _, _, _ => by have := flat_pos o; omega
  | n + 1, t, D, τ, hf, o, na, hl, hτ => by
    rcases ok_cases o with rfl | ⟨j, hj, rfl⟩ | ⟨x, y, rfl, hx, hy⟩ | ⟨x, y, rfl, hx, hy⟩ | ⟨m, x, y, z, hm, rfl, h0, h1, h2⟩
    · exact kp9_top _ _
    · exact kp9_var _ _ _
    · rw [flat_fun, List.length_cons, List.length_append] at hf hl
      rw [noal_fun, Bool.and_eq_true] at na
      exact kp9_fun.mpr ⟨kpA hC n x D τ (by omega) hx na.1 (by omega) hτ, kpA hC n y D τ (by omega) hy na.2 (by omega) hτ⟩
    · rw [flat_all, List.length_cons, List.length_append] at hf hl
      rw [noal_all, Bool.and_eq_true, Bool.and_eq_true, decide_eq_true_iff] at na
      have short : ∀ {D : Nat} {u : Ty}, ok D u = true → (flat u).length < (flat (k1 C)).length → hd u = 2 → ∃ p q, u = tAll p q ∧ shp p ≠ shp (k1 C) := by
        intro D u ou hu h2
        obtain ⟨p, q, rfl, op, oq⟩ := hd_is_all ou h2
        refine ⟨p, q, rfl, fun e => ?_⟩
        have := congrArg List.length e
        rw [shp_len, shp_len] at this
        rw [flat_all, List.length_cons, List.length_append] at hu
        omega
      have px := flat_pos hx
      have py := flat_pos hy
      have gx : gkr C x = true := by
        by_cases c : hd x = 2
        · obtain ⟨p, q, rfl, ne⟩ := short hx (by omega) c
          exact gkr_sh hC ne
        · exact gkr_ns hC hx na.1 c
      have τ' := updp_all hτ gx
      refine kp9_all.mpr ⟨fun _ => bdr_is hy (fun _ j _ hj => τ' j hj) (fun n0 n16 => ?_), kpA hC n x D τ (by omega) hx na.2.1 (by omega) hτ, kpA hC n y (D + 1) _ (by omega) hy na.2.2 (by omega) τ'⟩
      unfold kmt
      rw [Bool.or_eq_true]
      left
      by_cases c : hd y = 2
      · obtain ⟨p, q, rfl, ne⟩ := short hy (by omega) c
        exact kmr_sh hC ne
      · exact kmr_ns hC hy n0 n16 c
    · rw [flat_rec, List.length_cons, List.length_append, List.length_append] at hf hl
      rw [noal_rec, Bool.and_eq_true, Bool.and_eq_true] at na
      have key : ∀ (i : Nat) (p : Ty), (flat p).length ≤ n → (flat p).length ≤ (flat (k1 C)).length → okl D m i p → noal p = true → kp9 C (tqN tR0 d0) (kmt C) τ D p = true := by
        intro i p hp hp2 ho hs
        unfold okl at ho
        by_cases hb : bit m i = true
        · rw [if_pos hb] at ho
          exact kpA hC n p D τ hp ho hs hp2 hτ
        · rw [if_neg hb] at ho
          rw [ho]; exact kp9_nil _ _
      exact kp9_rec.mpr ⟨key 0 x (by omega) (by omega) h0 na.1, key 1 y (by omega) (by omega) h1 na.2.1, key 2 z (by omega) (by omega) h2 na.2.2⟩
theorem sg_of {a : Ty} (hC : hd C = 2) (oC : ok d C = true) (hb : hd (k1 C) < 16) {D : Nat} (o : ok D a = true) (h2 : hd a = 2) (h : kmr C a = false) : sg9 (k1 C) a = true := by
  obtain ⟨x, y, rfl, hx, hy⟩ := hd_is_all o h2
  obtain ⟨c1, c2, rfl, oc1, oc2⟩ := hd_is_all oC hC
  have e : shp x = shp (k1 (tAll c1 c2)) := Classical.byContradiction (fun ne => by
    rw [kmr_sh hC ne] at h
    cases h)
  have e9 : k1 (tAll c1 c2) = c1 := rfl
  rw [e9] at e hb ⊢
  have q := shp_hd9 hx oc1 e hb
  have ek : k1 (tAll x y) = x := rfl
  unfold sg9
  rw [hd_all, ek, q]
  simp
theorem kpB (hC : hd C = 2) (oC : ok d C = true) (hb : hd (k1 C) < 16) (gR : gkr C tR0 = true) {ρ : Ty → Ty → Bool} (hρ : ∀ (a c : Ty) (D : Nat), ok D c = true → hd a = 8 → ρ a c = false → hd c ≠ 0 → hd c < 16 → kmt C c = true) : ∀ (n : Nat) (t : Ty) (D : Nat) (τ : Nat → Bool), (flat t).length ≤ n → ok D t = true → noal t = true → php ρ t = false → php (rhqw (k1 C)) t = false → ((∀ i, i < D → τ i = true) ∨ php rho8 t = false) → kp9 C (tqN tR0 d0) (kmt C) τ D t = true
  | 0, t, D, _, hf, o, _, _, _, _ => by have := flat_pos o; omega
  | n + 1, t, D, τ, hf, o, na, h1, h2, hm => by
    rcases ok_cases o with rfl | ⟨j, hj, rfl⟩ | ⟨x, y, rfl, hx, hy⟩ | ⟨x, y, rfl, hx, hy⟩ | ⟨m, x, y, z, hm', rfl, o0, o1, o2⟩
    · exact kp9_top _ _
    · exact kp9_var _ _ _
    · rw [flat_fun, List.length_cons, List.length_append] at hf
      rw [noal_fun, Bool.and_eq_true] at na
      rw [php_fun, Bool.or_eq_false_iff] at h1 h2 hm
      exact kp9_fun.mpr ⟨kpB hC oC hb gR hρ n x D τ (by omega) hx na.1 h1.1 h2.1 (hm.imp id (fun q => q.1)), kpB hC oC hb gR hρ n y D τ (by omega) hy na.2 h1.2 h2.2 (hm.imp id (fun q => q.2))⟩
    · rw [flat_all, List.length_cons, List.length_append] at hf
      rw [noal_all, Bool.and_eq_true, Bool.and_eq_true, decide_eq_true_iff] at na
      rw [php_all, Bool.or_eq_false_iff, Bool.or_eq_false_iff] at h1 h2 hm
      have md : (∀ i, i < D + 1 → updp C τ D x i = true) ∨ php rho8 y = false := by
        by_cases gx : gkr C x = true
        · rcases hm with q | q
          · exact Or.inl (updp_all q gx)
          · exact Or.inr q.2.2
        · right
          have c2 : hd x = 2 := Classical.byContradiction (fun c => gx (gkr_ns hC hx na.1 c))
          have km : kmr C x = false := by
            cases e : kmr C x with
            | false => rfl
            | true =>
              exfalso
              refine gx ?_
              unfold gkr
              rw [e, decide_eq_true na.1]
              simp
          have q := h2.1
          unfold rhqw at q
          rw [sg_of hC oC hb hx c2 km, Bool.true_and] at q
          exact q
      refine kp9_all.mpr ⟨fun tq => ?_, kpB hC oC hb gR hρ n x D τ (by omega) hx na.2.1 h1.2.1 h2.2.1 (hm.imp id (fun q => q.2.1)), kpB hC oC hb gR hρ n y (D + 1) _ (by omega) hy na.2.2 h1.2.2 h2.2.2 md⟩
      have x0 : x = tR0 := flat_eq hx (show ok D tR0 = true from (ok_rec (by decide)).mpr ⟨rfl, rfl, rfl⟩) (of_decide_eq_true (tqN_r0 hx tq))
      have x8 : hd x = 8 := by rw [x0]; rfl
      refine bdr_is hy (fun v j ej hj => ?_) (fun n0 n16 => hρ x y (D + 1) hy x8 h1.1 n0 n16)
      rcases hm with q | q
      · exact updp_all q (by rw [x0]; exact gR) j hj
      · exfalso
        have q := q.1
        unfold rho8 at q
        rw [decide_eq_true x8, decide_eq_true v] at q
        cases q
    · rw [flat_rec, List.length_cons, List.length_append, List.length_append] at hf
      rw [noal_rec, Bool.and_eq_true, Bool.and_eq_true] at na
      rw [php_rec, Bool.or_eq_false_iff, Bool.or_eq_false_iff] at h1 h2 hm
      have key : ∀ (i : Nat) (p : Ty), (flat p).length ≤ n → okl D m i p → noal p = true → php ρ p = false → php (rhqw (k1 C)) p = false → ((∀ i, i < D → τ i = true) ∨ php rho8 p = false) → kp9 C (tqN tR0 d0) (kmt C) τ D p = true := by
        intro i p hp ho hs q1 q2 q3
        unfold okl at ho
        by_cases hb' : bit m i = true
        · rw [if_pos hb'] at ho
          exact kpB hC oC hb gR hρ n p D τ hp ho hs q1 q2 q3
        · rw [if_neg hb'] at ho
          rw [ho]; exact kp9_nil _ _
      exact kp9_rec.mpr ⟨key 0 x (by omega) o0 na.1 h1.1 h2.1 (hm.imp id (fun q => q.1)), key 1 y (by omega) o1 na.2.1 h1.2.1 h2.2.1 (hm.imp id (fun q => q.2.1)), key 2 z (by omega) o2 na.2.2 h1.2.2 h2.2.2 (hm.imp id (fun q => q.2.2))⟩
theorem kin_no {e f : Ty} {de df : Nat} (oe : ok de e = true) (of : ok df f = true) (he : hd e ≠ 0 ∧ hd e < 16) (hf : hd f ≠ 0 ∧ hd f < 16) (k : kin9 e f = false) : kmr e f = true := by
  unfold kin9 at k
  by_cases e2 : hd e = 2
  · rw [if_pos e2, decide_eq_false_iff_not] at k
    exact kmr_ns e2 of hf.1 hf.2 k
  · rw [if_neg e2, decide_eq_false_iff_not] at k
    have kC : kdt e = 1 ∨ kdt e = 4 := by
      rcases kdt_cases oe with q | q | q | q | q
      · obtain ⟨-, rfl | ⟨j, hj, rfl⟩⟩ := q
        · exact absurd rfl he.1
        · have := he.2
          rw [hd_var] at this
          omega
      · exact Or.inl q.1
      · obtain ⟨-, y, ey, oy⟩ := q
        exact absurd (by rw [ey]; exact hd_all _ _) e2
      · obtain ⟨-, x, y, ey, -, ox, oy⟩ := q
        exact absurd (by rw [ey]; exact hd_all _ _) e2
      · exact Or.inr q.1
    unfold kmr
    rw [kms_own kC of hf.1 hf.2 k]
    rfl
end PmT0
/-- where the body, a scheme, may not be replaced -/
theorem two_r0 {b e : Ty} (oC : ok 1 (tAll b e) = true) (na : noal (tAll b e) = true) (nov : ¬ OVq 1 tR0 (tAll b e) Dsm []) : (hd e ≠ 0 ∧ hd e < 16) ∧ (rhq b e b e = true ∨ php (rhq b e) e = true ∨ php (rhqw b) e = true) := by
  have o := ok_all.mp oC
  have na' := na
  rw [noal_all, Bool.and_eq_true, Bool.and_eq_true, decide_eq_true_iff] at na'
  have hC : hd (tAll b e) = 2 := hd_all _ _
  have ek : k1 (tAll b e) = b := rfl
  have ek2 : k2 (tAll b e) = e := rfl
  have hb' : hd (k1 (tAll b e)) < 16 := na'.1
  have oR : ok 0 tR0 = true := (ok_rec (by decide)).mpr ⟨rfl, rfl, rfl⟩
  have gR : gkr (tAll b e) tR0 = true := gkr_ns hC oR (by decide) (by decide)
  have t1 : ∀ i, i < 0 + 1 → updp (tAll b e) (taup (tAll b e) []) 0 tR0 i = true := updp_all (C := tAll b e) (a := tR0) (D := 0) (fun i hi => absurd hi (Nat.not_lt_zero i)) gR
  have gb : gkr (tAll b e) b = true := by
    by_cases c : hd b = 2
    · obtain ⟨x, y, rfl, ox, oy⟩ := hd_is_all o.1 c
      refine gkr_sh hC (fun e' => ?_)
      have := congrArg List.length e'
      rw [shp_len, shp_len, ek, flat_all, List.length_cons, List.length_append] at this
      omega
    · exact gkr_ns hC o.1 na'.1 c
  have t2 := updp_all (C := tAll b e) (a := b) t1 gb
  have fin : (∀ c : hd b = 8, hd e ≠ 0 → hd e < 16 → kmt (tAll b e) e = true) → kp9 (tAll b e) (tqN tR0 0) (kmt (tAll b e)) (updp (tAll b e) (updp (tAll b e) (taup (tAll b e) []) 0 tR0) (0 + 1) b) (0 + 1 + 1) e = true → False := by
    intro h1 h2
    refine nov (HKp9.ov (Nat.le_refl _) ⟨⟨trivial, by decide⟩, ⟨by rw [hC]; decide, by rw [hC]; decide⟩, fun j hj => absurd hj (Nat.not_lt_zero j), kp9_rec.mpr ⟨kp9_nil _ _, kp9_nil _ _, kp9_nil _ _⟩, kp9_all.mpr ⟨fun tq => ?_, kpA hC _ b _ _ (Nat.le_refl _) o.1 na'.2.1 (by rw [ek]; exact Nat.le_refl _) t1, h2⟩⟩)
    have b0 : b = tR0 := flat_eq o.1 (show ok 1 tR0 = true from (ok_rec (by decide)).mpr ⟨rfl, rfl, rfl⟩) (of_decide_eq_true (tqN_r0 o.1 tq))
    exact bdr_is o.2 (fun _ j _ hj => t2 j hj) (fun n0 n16 => h1 (by rw [b0]; rfl) n0 n16)
  have he : hd e ≠ 0 ∧ hd e < 16 := by
    refine Classical.byContradiction (fun c => ?_)
    rcases ok_cases o.2 with rfl | ⟨j, hj, rfl⟩ | ⟨x, y, rfl, hx, hy⟩ | ⟨x, y, rfl, hx, hy⟩ | ⟨m, x, y, z, hm, rfl, o0, o1, o2⟩
    · exact fin (fun _ n _ => absurd rfl n) (kp9_top _ _)
    · exact fin (fun _ _ n => by rw [hd_var] at n; omega) (kp9_var _ _ _)
    · exact c ⟨by rw [hd_fun]; decide, by rw [hd_fun]; decide⟩
    · exact c ⟨by rw [hd_all]; decide, by rw [hd_all]; decide⟩
    · exact c ⟨by rw [hd_rec]; omega, by rw [hd_rec]; omega⟩
  refine ⟨he, Classical.byContradiction (fun nb => ?_)⟩
  rw [not_or, not_or, Bool.not_eq_true, Bool.not_eq_true, Bool.not_eq_true] at nb
  have step : ∀ (a c : Ty) (D : Nat), ok D c = true → hd a = 8 → rhq b e a c = false → hd c ≠ 0 → hd c < 16 → kmt (tAll b e) c = true := by
    intro a c D oc a8 r n0 n16
    unfold kmt
    rw [Bool.or_eq_true]
    by_cases c2 : hd c = 2
    · cases km : kmr (tAll b e) c with
      | true => exact Or.inl rfl
      | false =>
        right
        have s := sg_of hC oC hb' oc c2 km
        rw [ek] at s
        unfold rhq at r
        rw [decide_eq_true a8, Bool.true_and, s, Bool.true_and, Bool.or_eq_false_iff, Bool.or_eq_false_iff, decide_eq_false_iff_not, decide_eq_false_iff_not] at r
        obtain ⟨x', y', rfl, ox', oy'⟩ := hd_is_all oc c2
        have e9 : k2 (tAll x' y') = y' := rfl
        rw [e9] at r
        rw [decide_eq_true_iff, e9, ek2]
        exact ⟨hd_all _ _, hC, by omega, he.2, kin_no o.2 oy' he ⟨r.2.2, by omega⟩ r.1⟩
    · exact Or.inl (kmr_ns hC oc n0 n16 c2)
  exact fin (fun b8 n0 n16 => step b e (0 + 1 + 1) o.2 b8 nb.1 n0 n16) (kpB hC oC hb' gR step _ e _ _ (Nat.le_refl _) o.2 na'.2.2 nb.2.1 nb.2.2 (Or.inl t2))
