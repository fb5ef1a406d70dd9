/-! A BODY THAT IS A SCHEME: where it may not be replaced, it holds such a scheme again. -/
theorem tqN_top {d0 D : Nat} {a : Ty} (o : ok D a = true) (h : tqN tTop d0 D a = true) : hd a = 0 := by
  unfold tqN at h
  rw [decide_eq_true_iff, show flat tTop = [0] from rfl] at h
  have l := congrArg List.length h
  rw [List.length_map, List.length_map] at l
  have e0 : nfx d0 0 = 0 := nfx_lo (by omega)
  rcases ok_cases o with rfl | ⟨j, hj, rfl⟩ | ⟨x, y, rfl, hx, hy⟩ | ⟨x, y, rfl, hx, hy⟩ | ⟨m, x, y, z, hm, rfl, h0, h1, h2⟩
  · rfl
  · exfalso
    rw [show flat (tVar j) = [((16 + j : Nat) : Int)] from rfl, List.map_cons, List.map_cons, e0, nfx_lo (by omega)] at h
    injection h with h1 h2
    omega
  · exfalso
    have := flat_pos hx
    rw [flat_fun, List.length_cons, List.length_append, List.length_singleton] at l
    omega
  · exfalso
    have := flat_pos hx
    rw [flat_all, List.length_cons, List.length_append, List.length_singleton] at l
    omega
  · exfalso
    rw [flat_rec, List.map_cons, List.map_cons, e0, nfx_lo (by omega)] at h
    injection h with h1 h2
    omega
theorem shp_len (t : Ty) : (shp t).length = (flat t).length := by unfold shp; rw [List.length_map]
theorem shp_hq {d d' : Nat} {a b : Ty} (oa : ok d a = true) (ob : ok d' b = true) (e : shp a = shp b) (h : hd b ≠ 0 ∧ hd b < 16) : hd a ≠ 0 ∧ hd a < 16 := by
  have first : ∀ {d : Nat} {t : Ty}, ok d t = true → ∃ l, shp t = (if 16 ≤ hd t then (16 : Int) else (hd t : Int)) :: l := by
    intro d t o
    rcases ok_cases o with rfl | ⟨j, hj, rfl⟩ | ⟨x, y, rfl, hx, hy⟩ | ⟨x, y, rfl, hx, hy⟩ | ⟨m, x, y, z, hm, rfl, h0, h1, h2⟩
    · exact ⟨[], rfl⟩
    · refine ⟨[], ?_⟩
      unfold shp
      rw [show flat (tVar j) = [((16 + j : Nat) : Int)] from rfl, hd_var, if_pos (by omega), List.map_cons, if_pos (by omega)]
      rfl
    · unfold shp
      rw [flat_fun, hd_fun]
      exact ⟨_, rfl⟩
    · unfold shp
      rw [flat_all, hd_all]
      exact ⟨_, rfl⟩
    · unfold shp
      rw [flat_rec, hd_rec, List.map_cons, if_neg (by omega), if_neg (by omega)]
      exact ⟨_, rfl⟩
  obtain ⟨l1, e1⟩ := first oa
  obtain ⟨l2, e2⟩ := first ob
  rw [e1, e2] at e
  injection e with e3 e4
  rw [if_neg (show ¬ 16 ≤ hd b by omega)] at e3
  by_cases c : 16 ≤ hd a
  · rw [if_pos c] at e3
    omega
  · rw [if_neg c] at e3
    omega
section PmNt
variable {C : Ty} {d0 d : Nat}
theorem kms_ns {f : Ty} (hC : hd C = 2) (o : ok d f = true) (h0 : hd f ≠ 0) (h16 : hd f < 16) (h2 : hd f ≠ 2) : kms C f = true := by
  unfold kms
  rw [Bool.or_eq_true]
  left
  unfold kmm
  rw [decide_eq_true_iff, hC]
  rcases ok_cases o with rfl | ⟨j, hj, rfl⟩ | ⟨x, y, rfl, hx, hy⟩ | ⟨x, y, rfl, hx, hy⟩ | ⟨m, x, y, z, hm, rfl, -, -, -⟩
  · exact absurd rfl h0
  · rw [hd_var] at h16; omega
  · left; rw [hd_fun]; omega
  · exact absurd (hd_all _ _) h2
  · right; right; rw [hd_rec]; omega
theorem kms_sh {x y : Ty} (hC : hd C = 2) (ne : shp x ≠ shp (k1 C)) : kms C (tAll x y) = true := by
  unfold kms
  rw [Bool.or_eq_true, decide_eq_true_iff]
  exact Or.inr ⟨hd_all _ _, hC, ne⟩
theorem gks_ns {a : Ty} (hC : hd C = 2) (o : ok d a = true) (h16 : hd a < 16) (h2 : hd a ≠ 2) : gks C a = true := by
  unfold gks
  rw [Bool.or_eq_true, Bool.and_eq_true, decide_eq_true_iff, decide_eq_true_iff]
  by_cases h0 : hd a = 0
  · exact Or.inl h0
  · exact Or.inr ⟨h16, kms_ns hC o h0 h16 h2⟩
theorem gks_sh {x y : Ty} (hC : hd C = 2) (ne : shp x ≠ shp (k1 C)) : gks C (tAll x y) = true := by
  unfold gks
  rw [Bool.or_eq_true, Bool.and_eq_true, decide_eq_true_iff, decide_eq_true_iff]
  exact Or.inr ⟨by rw [hd_all]; omega, kms_sh hC ne⟩
theorem upds_all {τ : Nat → Bool} {D : Nat} {a : Ty} (hτ : ∀ i, i < D → τ i = true) (h : gks C a = true) : ∀ i, i < D + 1 → upds C τ D a i = true := by
  intro i hi
  unfold upds
  by_cases e : i = D
  · rw [if_pos e]; exact h
  · rw [if_neg e]; exact hτ i (by omega)
theorem bdr_is {κ : Ty → Bool} {τ : Nat → Bool} {D : Nat} {c : Ty} (o : ok D c = true) (hv : 16 ≤ hd c → ∀ j, c = tVar j → j < D → τ j = true) (hn : hd c ≠ 0 → hd c < 16 → κ c = true) : bdr κ τ c = true := by
  unfold bdr
  rw [Bool.or_eq_true, decide_eq_true_iff]
  by_cases h0 : hd c = 0
  · exact Or.inl h0
  right
  by_cases v : 16 ≤ hd c
  · rw [if_pos v]
    obtain ⟨j, hj, rfl⟩ := hd_is_var o v
    rw [hd_var, show 16 + j - 16 = j by omega]
    exact hv v j rfl hj
  · rw [if_neg v]
    exact hn h0 (by omega)
theorem ku9_ns {τ : Nat → Bool} : ∀ (n : Nat) (t : Ty) (D : Nat), (flat t).length ≤ n → ok D t = true → nsch t = true → ku9 C (tqN tTop d0) (kmu C) τ D t = true
  | 0, t, D, hf, o, _ => by have := flat_pos o; omega
  | n + 1, t, D, hf, o, h => by
    rcases ok_cases o with rfl | ⟨j, hj, rfl⟩ | ⟨x, y, rfl, hx, hy⟩ | ⟨x, y, rfl, hx, hy⟩ | ⟨m, x, y, z, hm, rfl, h0, h1, h2⟩
    · exact ku9_top _ _
    · exact ku9_var _ _ _
    · rw [flat_fun, List.length_cons, List.length_append] at hf
      rw [nsch_fun, Bool.and_eq_true] at h
      exact ku9_fun.mpr ⟨ku9_ns n x D (by omega) hx h.1, ku9_ns n y D (by omega) hy h.2⟩
    · rw [nsch_all] at h
      cases h
    · rw [flat_rec, List.length_cons, List.length_append, List.length_append] at hf
      rw [nsch_rec, Bool.and_eq_true, Bool.and_eq_true] at h
      have key : ∀ (i : Nat) (p : Ty), (flat p).length ≤ n → okl D m i p → nsch p = true → ku9 C (tqN tTop d0) (kmu C) τ D p = true := by
        intro i p hp ho hs
        unfold okl at ho
        by_cases hb : bit m i = true
        · rw [if_pos hb] at ho
          exact ku9_ns n p D hp ho hs
        · rw [if_neg hb] at ho
          rw [ho]; exact ku9_nil _ _
      exact ku9_rec.mpr ⟨key 0 x (by omega) h0 h.1, key 1 y (by omega) h1 h.2.1, key 2 z (by omega) h2 h.2.2⟩
/-- what is no longer than the bound -/
theorem kuA (hC : hd C = 2) : ∀ (n : Nat) (t : Ty) (D : Nat) (τ : Nat → Bool), (flat t).length ≤ n → ok D t = true → noal t = true → (flat t).length ≤ (flat (k1 C)).length → (∀ i, i < D → τ i = true) → ku9 C (tqN tTop d0) (kmu C) τ D t = true
  | 0, t, D, _, hf, o, _, _, _ => by have := flat_pos o; omega
  | n + 1, t, D, τ, hf, o, na, hl, hτ => by
    rcases ok_cases o with rfl | ⟨j, hj, rfl⟩ | ⟨x, y, rfl, hx, hy⟩ | ⟨x, y, rfl, hx, hy⟩ | ⟨m, x, y, z, hm, rfl, h0, h1, h2⟩
    · exact ku9_top _ _
    · exact ku9_var _ _ _
    · rw [flat_fun, List.length_cons, List.length_append] at hf hl
      rw [noal_fun, Bool.and_eq_true] at na
      exact ku9_fun.mpr ⟨kuA hC n x D τ (by omega) hx na.1 (by omega) hτ, kuA hC n y D τ (by omega) hy na.2 (by omega) hτ⟩
    · rw [flat_all, List.length_cons, List.length_append] at hf hl
      rw [noal_all, Bool.and_eq_true, Bool.and_eq_true, decide_eq_true_iff] at na
      have short : ∀ {D : Nat} {u : Ty}, ok D u = true → (flat u).length < (flat (k1 C)).length → hd u = 2 → ∃ p q, u = tAll p q ∧ shp p ≠ shp (k1 C) := by
        intro D u ou hu h2
        obtain ⟨p, q, rfl, op, oq⟩ := hd_is_all ou h2
        refine ⟨p, q, rfl, fun e => ?_⟩
        have := congrArg List.length e
        rw [shp_len, shp_len] at this
        rw [flat_all, List.length_cons, List.length_append] at hu
        omega
      have px := flat_pos hx
      have py := flat_pos hy
      have gx : gks C x = true := by
        by_cases c : hd x = 2
        · obtain ⟨p, q, rfl, ne⟩ := short hx (by omega) c
          exact gks_sh hC ne
        · exact gks_ns hC hx na.1 c
      have τ' := upds_all hτ gx
      refine ku9_all.mpr ⟨fun _ => bdr_is hy (fun _ j _ hj => τ' j hj) (fun n0 n16 => ?_), kuA hC n x D τ (by omega) hx na.2.1 (by omega) hτ, kuA hC n y (D + 1) _ (by omega) hy na.2.2 (by omega) τ'⟩
      unfold kmu
      rw [Bool.or_eq_true]
      left
      by_cases c : hd y = 2
      · obtain ⟨p, q, rfl, ne⟩ := short hy (by omega) c
        exact kms_sh hC ne
      · exact kms_ns hC hy n0 n16 c
    · rw [flat_rec, List.length_cons, List.length_append, List.length_append] at hf hl
      rw [noal_rec, Bool.and_eq_true, Bool.and_eq_true] at na
      have key : ∀ (i : Nat) (p : Ty), (flat p).length ≤ n → (flat p).length ≤ (flat (k1 C)).length → okl D m i p → noal p = true → ku9 C (tqN tTop d0) (kmu C) τ D p = true := by
        intro i p hp hp2 ho hs
        unfold okl at ho
        by_cases hb : bit m i = true
        · rw [if_pos hb] at ho
          exact kuA hC n p D τ hp ho hs hp2 hτ
        · rw [if_neg hb] at ho
          rw [ho]; exact ku9_nil _ _
      exact ku9_rec.mpr ⟨key 0 x (by omega) (by omega) h0 na.1, key 1 y (by omega) (by omega) h1 na.2.1, key 2 z (by omega) (by omega) h2 na.2.2⟩
/-- a scheme whose bound looks like the body's bound -/
theorem k2n_of {a : Ty} (hC : hd C = 2) (oC : ok d C = true) (hb : hd (k1 C) ≠ 0 ∧ hd (k1 C) < 16) {D : Nat} (o : ok D a = true) (h2 : hd a = 2) (h : kms C a = false) : k2n a = true := by
  obtain ⟨x, y, rfl, hx, hy⟩ := hd_is_all o h2
  obtain ⟨c1, c2, rfl, oc1, oc2⟩ := hd_is_all oC hC
  have e : shp x = shp (k1 (tAll c1 c2)) := Classical.byContradiction (fun ne => by
    rw [kms_sh hC ne] at h
    cases h)
  have e9 : k1 (tAll c1 c2) = c1 := rfl
  rw [e9] at e hb
  have q := shp_hq hx oc1 e hb
  have ek : k1 (tAll x y) = x := rfl
  unfold k2n kdt
  rw [hd_all, ek, if_neg (by decide), if_pos rfl, if_neg q.1, Bool.and_eq_true, decide_eq_true_iff, decide_eq_true_iff]
  exact ⟨rfl, q.2⟩
theorem kuB (hC : hd C = 2) (oC : ok d C = true) (hb : hd (k1 C) ≠ 0 ∧ hd (k1 C) < 16) {ρ : Ty → Ty → Bool} (hρ : ∀ (a c : Ty) (D : Nat), ok D c = true → hd a = 0 → ρ a c = false → hd c ≠ 0 → hd c < 16 → kmu C c = true) : ∀ (n : Nat) (t : Ty) (D : Nat) (τ : Nat → Bool), (flat t).length ≤ n → ok D t = true → noal t = true → php ρ t = false → php rhow t = false → ((∀ i, i < D → τ i = true) ∨ php rhov t = false) → ku9 C (tqN tTop d0) (kmu C) τ D t = true
  | 0, t, D, _, hf, o, _, _, _, _ => by have := flat_pos o; omega
  | n + 1, t, D, τ, hf, o, na, h1, h2, hm => by
    rcases ok_cases o with rfl | ⟨j, hj, rfl⟩ | ⟨x, y, rfl, hx, hy⟩ | ⟨x, y, rfl, hx, hy⟩ | ⟨m, x, y, z, hm', rfl, o0, o1, o2⟩
    · exact ku9_top _ _
    · exact ku9_var _ _ _
    · rw [flat_fun, List.length_cons, List.length_append] at hf
      rw [noal_fun, Bool.and_eq_true] at na
      rw [php_fun, Bool.or_eq_false_iff] at h1 h2 hm
      exact ku9_fun.mpr ⟨kuB hC oC hb hρ n x D τ (by omega) hx na.1 h1.1 h2.1 (hm.imp id (fun q => q.1)), kuB hC oC hb hρ n y D τ (by omega) hy na.2 h1.2 h2.2 (hm.imp id (fun q => q.2))⟩
    · rw [flat_all, List.length_cons, List.length_append] at hf
      rw [noal_all, Bool.and_eq_true, Bool.and_eq_true, decide_eq_true_iff] at na
      rw [php_all, Bool.or_eq_false_iff, Bool.or_eq_false_iff] at h1 h2 hm
      have md : (∀ i, i < D + 1 → upds C τ D x i = true) ∨ php rhov y = false := by
        by_cases gx : gks C x = true
        · rcases hm with q | q
          · exact Or.inl (upds_all q gx)
          · exact Or.inr q.2.2
        · right
          have c2 : hd x = 2 := Classical.byContradiction (fun c => gx (gks_ns hC hx na.1 c))
          have km : kms C x = false := by
            cases e : kms C x with
            | false => rfl
            | true =>
              exfalso
              refine gx ?_
              unfold gks
              rw [e, decide_eq_true na.1]
              simp
          have q := h2.1
          unfold rhow at q
          rw [k2n_of hC oC hb hx c2 km, Bool.true_and] at q
          exact q
      refine ku9_all.mpr ⟨fun tq => ?_, kuB hC oC hb hρ n x D τ (by omega) hx na.2.1 h1.2.1 h2.2.1 (hm.imp id (fun q => q.2.1)), kuB hC oC hb hρ n y (D + 1) _ (by omega) hy na.2.2 h1.2.2 h2.2.2 md⟩
      have x0 := tqN_top hx tq
      refine bdr_is hy (fun v j ej hj => ?_) (fun n0 n16 => hρ x y (D + 1) hy x0 h1.1 n0 n16)
      rcases hm with q | q
      · refine upds_all q ?_ j hj
        unfold gks
        rw [decide_eq_true x0]
        rfl
      · exfalso
        have q := q.1
        unfold rhov at q
        rw [decide_eq_true x0, decide_eq_true v] at q
        cases q
    · rw [flat_rec, List.length_cons, List.length_append, List.length_append] at hf
      rw [noal_rec, Bool.and_eq_true, Bool.and_eq_true] at na
      rw [php_rec, Bool.or_eq_false_iff, Bool.or_eq_false_iff] at h1 h2 hm
      have key : ∀ (i : Nat) (p : Ty), (flat p).length ≤ n → okl D m i p → noal p = true → php ρ p = false → php rhow p = false → ((∀ i, i < D → τ i = true) ∨ php rhov p = false) → ku9 C (tqN tTop d0) (kmu C) τ D p = true := by
        intro i p hp ho hs q1 q2 q3
        unfold okl at ho
        by_cases hb' : bit m i = true
        · rw [if_pos hb'] at ho
          exact kuB hC oC hb hρ n p D τ hp ho hs q1 q2 q3
        · rw [if_neg hb'] at ho
          rw [ho]; exact ku9_nil _ _
      exact ku9_rec.mpr ⟨key 0 x (by omega) o0 na.1 h1.1 h2.1 (hm.imp id (fun q => q.1)), key 1 y (by omega) o1 na.2.1 h1.2.1 h2.2.1 (hm.imp id (fun q => q.2.1)), key 2 z (by omega) o2 na.2.2 h1.2.2 h2.2.2 (hm.imp id (fun q => q.2.2))⟩
end PmNt
/-- where the body may not be replaced -/
theorem two_flag {b e : Ty} {Γ0 : List Ty} (hc : okc Γ0) (hv : noac Γ0) (oC : ok (Γ0.length + 1) (tAll b e) = true) (na : noal (tAll b e) = true) (hb : hd b ≠ 0) (h0 : ∀ a ∈ Γ0, nsch a = true) (nov : ¬ OVq 1 tTop (tAll b e) Dsm Γ0) : bdC b e = true := by
  refine Classical.byContradiction (fun nb => nov ?_)
  have nb : bdC b e = false := by simpa using nb
  have o := ok_all.mp oC
  have na' := na
  rw [noal_all, Bool.and_eq_true, Bool.and_eq_true, decide_eq_true_iff] at na'
  have hC : hd (tAll b e) = 2 := hd_all _ _
  have ek : k1 (tAll b e) = b := rfl
  have ek2 : k2 (tAll b e) = e := rfl
  have hb' : hd (k1 (tAll b e)) ≠ 0 ∧ hd (k1 (tAll b e)) < 16 := ⟨hb, na'.1⟩
  unfold bdC at nb
  rw [Bool.or_eq_false_iff, Bool.or_eq_false_iff, Bool.and_eq_false_iff, Bool.and_eq_false_iff, Bool.or_eq_false_iff, decide_eq_false_iff_not, decide_eq_false_iff_not, decide_eq_false_iff_not] at nb
  obtain ⟨n1, n2, n3⟩ := nb
  have mem : ∀ {Γ : List Ty} {j : Nat}, j < Γ.length → bnd Γ j ∈ Γ := by
    intro Γ
    induction Γ with
    | nil => intro j hj; cases hj
    | cons a Γ ih =>
      intro j hj
      show (if j = Γ.length then a else bnd Γ j) ∈ a :: Γ
      by_cases ej : j = Γ.length
      · rw [if_pos ej]; exact List.mem_cons_self ..
      · rw [if_neg ej]; exact List.mem_cons_of_mem _ (ih (by rw [List.length_cons] at hj; omega))
  have tau : ∀ i, i < Γ0.length → taus (tAll b e) Γ0 i = true := by
    intro i hi
    have ns := h0 _ (mem hi)
    refine gks_ns hC (okc_bnd' hc hi) (hv i hi).2 (fun c => ?_)
    obtain ⟨x, y, ex, -, -⟩ := hd_is_all (okc_bnd' hc hi) c
    rw [ex, nsch_all] at ns
    cases ns
  have gt : gks (tAll b e) tTop = true := rfl
  have t1 := upds_all (C := tAll b e) (a := tTop) tau gt
  have gb : gks (tAll b e) b = true := by
    by_cases c : hd b = 2
    · obtain ⟨x, y, rfl, ox, oy⟩ := hd_is_all o.1 c
      refine gks_sh hC (fun e' => ?_)
      have := congrArg List.length e'
      rw [shp_len, shp_len, ek, flat_all, List.length_cons, List.length_append] at this
      omega
    · exact gks_ns hC o.1 na'.1 c
  have t2 := upds_all (C := tAll b e) (a := b) t1 gb
  refine HKs9.ov (Nat.le_refl _) ⟨⟨trivial, by decide⟩, ⟨by rw [hC]; decide, by rw [hC]; decide⟩, fun j hj => ku9_ns _ _ j (Nat.le_refl _) (okc_bnd' hc hj) (h0 _ (mem hj)), ku9_top _ _, ku9_all.mpr ⟨fun tq => absurd (tqN_top o.1 tq) hb, kuA hC _ b _ _ (Nat.le_refl _) o.1 na'.2.1 (by rw [ek]; exact Nat.le_refl _) t1, ?_⟩⟩
  have shape : ∀ (a c : Ty) (D : Nat), ok D c = true → hd c ≠ 0 → hd c < 16 → k2n c = false → kmu (tAll b e) c = true := by
    intro a c D oc n0 n16 k
    unfold kmu
    rw [Bool.or_eq_true]
    left
    by_cases c2 : hd c = 2
    · cases km : kms (tAll b e) c with
      | true => rfl
      | false =>
        rw [k2n_of hC oC hb' oc c2 km] at k
        cases k
    · exact kms_ns hC oc n0 n16 c2
  rcases kdt_cases o.2 with q | q | q | q | q
  · obtain ⟨-, rfl | ⟨k, hk, rfl⟩⟩ := q
    · exact ku9_top _ _
    · exact ku9_var _ _ _
  · refine kuB hC oC hb' (ρ := rho2) (fun a c D oc a0 r n0 n16 => ?_) _ e _ _ (Nat.le_refl _) o.2 na'.2.2 ?_ n3 (Or.inl t2)
    · unfold rho2 at r
      rw [decide_eq_true a0, Bool.true_and] at r
      exact shape a c D oc n0 n16 r
    · exact n1.resolve_left (fun z => z.1 q.1)
  · obtain ⟨-, y, ey, oy⟩ := q
    have he2 : hd e = 2 := by rw [ey]; exact hd_all _ _
    refine kuB hC oC hb' (ρ := rhos) (fun a c D oc a0 r n0 n16 => ?_) _ e _ _ (Nat.le_refl _) o.2 na'.2.2 (n2.resolve_left (fun z => z he2)) n3 (Or.inl t2)
    cases k : k2n c with
    | false => exact shape a c D oc n0 n16 k
    | true =>
      unfold rhos at r
      rw [decide_eq_true a0, Bool.true_and, k, Bool.true_and, Bool.or_eq_false_iff, Bool.or_eq_false_iff, decide_eq_false_iff_not, decide_eq_false_iff_not, decide_eq_false_iff_not] at r
      obtain ⟨x', y', rfl, ox', oy', -, -⟩ := k2n_is oc k
      have e9 : k2 (tAll x' y') = y' := rfl
      rw [e9] at r
      unfold kmu
      rw [Bool.or_eq_true, decide_eq_true_iff]
      right
      refine ⟨hd_all _ _, hC, by rw [e9]; omega, by rw [ek2, he2]; decide, ?_⟩
      rw [ek2, e9]
      exact kms_ns he2 oy' r.2.2 (by omega) r.1
  · obtain ⟨-, x, y, ey, -, ox, oy⟩ := q
    have he2 : hd e = 2 := by rw [ey]; exact hd_all _ _
    refine kuB hC oC hb' (ρ := rhos) (fun a c D oc a0 r n0 n16 => ?_) _ e _ _ (Nat.le_refl _) o.2 na'.2.2 (n2.resolve_left (fun z => z he2)) n3 (Or.inl t2)
    cases k : k2n c with
    | false => exact shape a c D oc n0 n16 k
    | true =>
      unfold rhos at r
      rw [decide_eq_true a0, Bool.true_and, k, Bool.true_and, Bool.or_eq_false_iff, Bool.or_eq_false_iff, decide_eq_false_iff_not, decide_eq_false_iff_not, decide_eq_false_iff_not] at r
      obtain ⟨x', y', rfl, ox', oy', -, -⟩ := k2n_is oc k
      have e9 : k2 (tAll x' y') = y' := rfl
      rw [e9] at r
      unfold kmu
      rw [Bool.or_eq_true, decide_eq_true_iff]
      right
      refine ⟨hd_all _ _, hC, by rw [e9]; omega, by rw [ek2, he2]; decide, ?_⟩
      rw [ek2, e9]
      exact kms_ns he2 oy' r.2.2 (by omega) r.1
  · refine kuB hC oC hb' (ρ := rho2) (fun a c D oc a0 r n0 n16 => ?_) _ e _ _ (Nat.le_refl _) o.2 na'.2.2 ?_ n3 (Or.inl t2)
    · unfold rho2 at r
      rw [decide_eq_true a0, Bool.true_and] at r
      exact shape a c D oc n0 n16 r
    · exact n1.resolve_left (fun z => z.2 q.1)
