/-! THE LAST OF exH, A BOUND OF FIVE CHARACTERS: an argument of one character, its value by kinds (RESTAG9). -/
theorem num_g9 : (Nat.ble (Zx fr1 50 8) 102 && (Nat.ble (Zx fr1 50 5) 50 && (Nat.ble (Zx fr1 38 11) 118 && (Nat.ble (Zx frq 31 11) 95 && (Nat.ble (Zx fr1 114 6) 116 && Nat.ble (Zx frq 93 6) 96))))) = true ∧ (List.range 40).all (fun c => Nat.ble (fx1.getD c 0) 114 && Nat.ble (fxq.getD c 0) 93) = true ∧ (frg xr1 18).all (fun v => Nat.ble (4 + v.2 + v.1 * 3) 38 && (Nat.ble (4 + v.2 + v.1 * 5) 50 && Nat.ble (v.2 + v.1 * 145) 887)) = true ∧ (frg xrq 18).all (fun v => Nat.ble (1 + v.2 + v.1 * 4) 31 && Nat.ble (v.2 + v.1 * 98) 597) = true := by decide +kernel
/-- closed types of five characters -/
theorem five_txt9 {B : Ty} (o : ok 0 B = true) (h5 : tch B = 5) : (hd B = 1 ∧ (∀ h ω, nz 0 (fun _ => 1 + 1) (2 + 1) h ω B ≤ 2) ∧ ∀ ω, nz 1 ngc 1 (fun x => x) ω B ≤ 3) ∨ ((8 ≤ hd B ∧ hd B < 16) ∧ (∀ h ω, nz 0 (fun _ => 1 + 1) (2 + 1) h ω B ≤ 4) ∧ ∀ ω, nz 1 ngc 1 (fun x => x) ω B ≤ 4) := by
  have top : ∀ p, ok 0 p = true → tch p = 1 → p = tTop := fun p op tp => by
    rcases one_txt op tp with e | ⟨j, hj, -⟩
    · exact e
    · omega
  rcases ok_cases o with rfl | ⟨j, hj, rfl⟩ | ⟨a, c, rfl, ha, hb⟩ | ⟨a, c, rfl, ha, hb⟩ | ⟨m, x, y, z, hm, rfl, o0, o1, o2⟩
  · exact absurd h5 (by decide)
  · omega
  · rw [tch_fun] at h5
    have pa := tch_pos ha
    have pb := tch_pos hb
    rw [top a ha (by omega), top c hb (by omega)]
    exact Or.inl ⟨hd_fun _ _, fun h ω => by rw [nz_fun, nz_top]; decide, fun ω => by rw [nz_fun, nz_top]; decide⟩
  · rw [tch_all] at h5
    have pa := tch_pos ha
    have pb := tch_pos hb
    omega
  · right
    rw [tch_rec] at h5
    have tn : tch (.nil : Ty) = 0 := rfl
    have fld : ∀ (i : Nat) (u : Ty), okl 0 m i u → (bit m i = true → ok 0 u = true ∧ 1 ≤ tch u) ∧ (bit m i = false → u = .nil) := fun i u ou => by
      unfold okl at ou
      refine ⟨fun hb => ?_, fun hb => ?_⟩
      · rw [if_pos hb] at ou
        exact ⟨ou, tch_pos ou⟩
      · rw [if_neg (by rw [hb]; decide)] at ou
        exact ou
    obtain ⟨a0, b0⟩ := fld 0 x o0
    obtain ⟨a1, b1⟩ := fld 1 y o1
    obtain ⟨a2, b2⟩ := fld 2 z o2
    have rc : rch 0 = 2 ∧ rch 1 = 3 ∧ rch 2 = 3 ∧ rch 3 = 5 ∧ rch 4 = 3 ∧ rch 5 = 5 ∧ rch 6 = 5 ∧ rch 7 = 7 := by decide
    have n0 : ∀ h ω, nz 0 (fun _ => 1 + 1) (2 + 1) h ω tR0 = 2 := fun h ω => by unfold tR0; rw [nz_rec, nz_nil]
    have n1' : ∀ ω, nz 1 ngc 1 (fun x => x) ω tR0 = 1 := fun ω => by unfold tR0; rw [nz_rec, nz_nil]; rfl
    refine ⟨by rw [hd_rec]; omega, ?_⟩
    rcases (show m = 0 ∨ m = 1 ∨ m = 2 ∨ m = 3 ∨ m = 4 ∨ m = 5 ∨ m = 6 ∨ m = 7 by omega) with rfl | rfl | rfl | rfl | rfl | rfl | rfl | rfl
    · exfalso
      rw [b0 (by decide), b1 (by decide), b2 (by decide), tn] at h5
      omega
    · have e1 := b1 (by decide)
      have e2 := b2 (by decide)
      subst e1; subst e2
      rw [two_rec (a0 (by decide)).1 (by omega)]
      exact ⟨fun h ω => by rw [nz_rec, nz_nil, n0]; decide, fun ω => by rw [nz_rec, nz_nil, n1']; decide⟩
    · have e1 := b0 (by decide)
      have e2 := b2 (by decide)
      subst e1; subst e2
      rw [two_rec (a1 (by decide)).1 (by omega)]
      exact ⟨fun h ω => by rw [nz_rec, nz_nil, n0]; decide, fun ω => by rw [nz_rec, nz_nil, n1']; decide⟩
    · exfalso
      have := (a0 (by decide)).2
      have := (a1 (by decide)).2
      omega
    · have e1 := b0 (by decide)
      have e2 := b1 (by decide)
      subst e1; subst e2
      rw [two_rec (a2 (by decide)).1 (by omega)]
      exact ⟨fun h ω => by rw [nz_rec, nz_nil, n0]; decide, fun ω => by rw [nz_rec, nz_nil, n1']; decide⟩
    · exfalso
      have := (a0 (by decide)).2
      have := (a2 (by decide)).2
      omega
    · exfalso
      have := (a1 (by decide)).2
      have := (a2 (by decide)).2
      omega
    · exfalso
      have := (a0 (by decide)).2
      have := (a1 (by decide)).2
      omega
/-- a record of at most nine characters over values of at most 50 -/
theorem rec_nine9 {h : Nat → Nat} {d : Bool} (eh : h = vlr d 1) {ω : List Nat} {X : Ty} (o : ok ω.length X = true) (hr : 8 ≤ hd X ∧ hd X < 16) (t9 : tch X ≤ 9) (hw : ∀ j, j < ω.length → vw ω j ≤ 50) : nz 0 (fun _ => 1 + 1) (2 + 1) h ω X ≤ 104 := by
  subst eh
  have T := tbs1 d
  have num := num_g9.1
  rw [Bool.and_eq_true, Bool.and_eq_true] at num
  have z6 := Nat.le_of_ble_eq_true num.1
  have z3 := Nat.le_of_ble_eq_true num.2.1
  obtain ⟨m, x, y, z, hm, rfl⟩ := hd_is_rec o hr.1 hr.2
  obtain ⟨o0, o1, o2⟩ := (ok_rec hm).mp o
  rw [tch_rec] at t9
  rw [nz_rec]
  have fld : ∀ (i : Nat) (u : Ty), okl ω.length m i u → (bit m i = true → 1 ≤ tch u) ∧ (bit m i = false → nz 0 (fun _ => 1 + 1) (2 + 1) (vlr d 1) ω u = 0 ∧ tch u = 0) ∧ (tch u ≤ 3 → nz 0 (fun _ => 1 + 1) (2 + 1) (vlr d 1) ω u ≤ 50) ∧ (tch u ≤ 6 → nz 0 (fun _ => 1 + 1) (2 + 1) (vlr d 1) ω u ≤ 102) := fun i u ou => by
    unfold okl at ou
    by_cases hb : bit m i = true
    · rw [if_pos hb] at ou
      have q := fun (h56 : tch u + 2 ≤ 58) => Zx_le T (x := 50) (A := u) ou (by omega) (by decide) hw
      refine ⟨fun _ => tch_pos ou, (fun c => by rw [hb] at c; cases c), fun t3 => ?_, fun t6 => ?_⟩
      · exact Nat.le_trans (q (by omega)) (Nat.le_trans (Zx_ms fr1_m (by omega) (by omega)) z3)
      · exact Nat.le_trans (q (by omega)) (Nat.le_trans (Zx_ms fr1_m (by omega) (by omega)) z6)
    · rw [if_neg hb] at ou
      subst ou
      exact ⟨fun c => absurd c hb, fun _ => ⟨nz_nil _, rfl⟩, fun _ => by rw [nz_nil]; omega, fun _ => by rw [nz_nil]; omega⟩
  obtain ⟨a0, b0, c0, d0⟩ := fld 0 x o0
  obtain ⟨a1, b1, c1, d1⟩ := fld 1 y o1
  obtain ⟨a2, b2, c2, d2⟩ := fld 2 z o2
  have rc : rch 0 = 2 ∧ rch 1 = 3 ∧ rch 2 = 3 ∧ rch 3 = 5 ∧ rch 4 = 3 ∧ rch 5 = 5 ∧ rch 6 = 5 ∧ rch 7 = 7 := by decide
  rcases (show m = 0 ∨ m = 1 ∨ m = 2 ∨ m = 3 ∨ m = 4 ∨ m = 5 ∨ m = 6 ∨ m = 7 by omega) with rfl | rfl | rfl | rfl | rfl | rfl | rfl | rfl
  · have := b0 (by decide); have := b1 (by decide); have := b2 (by decide); omega
  · have := b1 (by decide); have := b2 (by decide); omega
  · have := b0 (by decide); have := b2 (by decide); omega
  · have := b2 (by decide); have := a0 (by decide); have := a1 (by decide); omega
  · have := b0 (by decide); have := b1 (by decide); omega
  · have := b1 (by decide); have := a0 (by decide); have := a2 (by decide); omega
  · have := b0 (by decide); have := a1 (by decide); have := a2 (by decide); omega
  · have := a0 (by decide); have := a1 (by decide); have := a2 (by decide); omega
section PmZg9
variable {f : Nat} {s B C : Ty} {Δ1 : List Ty} {Δ : List (Nat × Ty × Nat)}
theorem nat_e5 (oB : ok 0 B = true) (oC : ok 1 C = true) (b5 : tch B = 5) (c18 : tch C = 18) (q13 : cch Δ1 = 13) (hv : noac (cxs Δ1 [] (tAll B C))) (he : TE (cxs Δ1 [] (tAll B C)) Δ) (d5 : dch Δ ≤ 5) (w : TWf f (cxs Δ1 [] (tAll B C)).length (Δ.map (fun a => a.1)) s) (k9 : nKd s = 9) (m3 : mch s = 3) : NtV (cxs Δ1 [] (tAll B C)) Δ f s 887 597 := by
  intro S hS
  cases f with
  | zero => exact w.elim
  | succ f =>
  obtain ⟨S0, a, c, h1, h2, h3, oc, oQ, -⟩ := tyF_is9 w he k9 hS
  obtain ⟨S0', h1', -, hb⟩ := is9_bel w k9 hS
  rw [h1] at h1'
  injection h1' with h1'
  subst h1'
  rw [h2] at hb
  have hb : bel (cxs Δ1 [] (tAll B C)) (nY s) a = true := hb
  have em := mch_is w.1.2.1
  rw [if_neg (by omega), if_neg (by omega), if_pos k9] at em
  have x1 := (w.2.2.2.2.2.1 k9).1
  have p2 := tch_pos oQ
  have p1 := mch_pos' x1
  have c5 : nKd (nX s) = 5 := Classical.byContradiction (fun n5 => by
    have := mch_two (tw_up _ _ _ _ x1) n5
    omega)
  have tQ : tch (nY s) = 1 := by omega
  have o := (tyF_ok _ _ _ _ _ x1 he h1).1
  have q1 : tch S0 ≤ 1 := by
    cases f with
    | zero => exact x1.elim
    | succ f =>
      obtain ⟨w0, w5, -⟩ := x1
      unfold tyF at h1
      rw [if_pos c5] at h1
      obtain ⟨e, l⟩ := tyO_in h1
      obtain ⟨a, ha⟩ := dlk_some (w5 c5)
      rw [ha] at e
      injection e with e
      have hm := dlk_mem ha
      obtain ⟨a1, a2, a3⟩ := he.2.2 _ hm
      have ad : tch a.1 + 4 ≤ dch Δ := dch_mem hm
      rw [← e, tch_lft a.2 _ a.1 a.2 a2]
      omega
  have ec : cch (cxs Δ1 [] (tAll B C)) = 44 := by
    have q := cch_cx (Γ0 := []) (β := tAll B C) Δ1
    have q2 := tch_all B C
    have q3 : cch ([] : List Ty) = 0 := rfl
    omega
  obtain ⟨num, fm, nR, nG⟩ := num_g9
  rw [Bool.and_eq_true, Bool.and_eq_true, Bool.and_eq_true, Bool.and_eq_true, Bool.and_eq_true] at num
  obtain ⟨-, -, k3, k4, k5, k6⟩ := num
  have k3 := Nat.le_of_ble_eq_true k3
  have k4 := Nat.le_of_ble_eq_true k4
  have k5 := Nat.le_of_ble_eq_true k5
  have k6 := Nat.le_of_ble_eq_true k6
  rcases one_txt o (by have := tch_pos o; omega) with e | ⟨j, hj, e⟩
  · rw [e, ex_n (by decide)] at h2
    have := congrArg hd h2
    rw [hd_all] at this
    exact absurd this (by decide)
  have v1 := ex_v he.1 hv hj
  rw [e, v1.1] at h2
  by_cases j0 : j = 0
  rotate_left
  · -- another scheme: few characters
    have mj := bnd_d1 Δ1 j (by omega) hj
    obtain ⟨d, o1, o2⟩ := okc_top Δ1 he.1 _ mj
    have obj := okc_bnd (Γ := cxs Δ1 [] (tAll B C)) (k := j) he.1 hj
    have h2j : hd (bnd (cxs Δ1 [] (tAll B C)) j) = 2 := by
      have q2 := (hd_lft0 (k := j) (n := (cxs Δ1 [] (tAll B C)).length - j) obj).2 (hv j hj).2
      rw [← q2, h2, hd_all]
    obtain ⟨p, r, ebj, op, oR⟩ := hd_is_all obj h2j
    rw [ebj, lft_all] at h2
    obtain ⟨-, e2⟩ := all_inj h2
    rw [ebj, tch_all] at o2
    have := tch_pos op
    have tc : tch c ≤ 9 := by
      rw [← e2, tch_lft j _ r (j + 1) oR]
      omega
    have fm := rng_all fx_mono47 (i := cch (cxs Δ1 [] (tAll B C))) (by omega)
    rw [Bool.and_eq_true] at fm
    have val : ∀ {t0 fn s2 hv r0 r1 r2 r3 x0 : Nat} {n1 h : Nat → Nat} {P Q : List (List Nat)} {F G : FrT} {X : List Nat} {x : Nat}, TBs 58 t0 fn s2 hv r0 r1 r2 r3 x0 n1 h P Q F G X → frm F = true → x0 ≤ x → t0 ≤ x → X.getD (cch (cxs Δ1 [] (tAll B C))) 0 ≤ x → nz t0 n1 s2 h (onz t0 n1 s2 h (cxs Δ1 [] (tAll B C))) S ≤ Zx F x 11 := by
      intro t0 fn s2 hv r0 r1 r2 r3 x0 n1 h P Q F G X x T hFm hx tx hX
      generalize hΓ : cxs Δ1 [] (tAll B C) = Γ at *
      have lo := onz_len t0 n1 s2 h Γ
      have hω : ∀ j, j < Γ.length → vw (onz t0 n1 s2 h Γ) j ≤ x := fun j hj => Nat.le_trans (onz_chars (n1 := n1) T.1 T.2.1 T.2.2.1 T.2.2.2.1 T.2.2.2.2.1 Γ he.1 (by omega) j hj) hX
      have zQ : nz t0 n1 s2 h (onz t0 n1 s2 h Γ) (nY s) ≤ x := by
        rcases one_txt oQ tQ with e | ⟨j, hj, e⟩
        · rw [e, nz_top]; exact tx
        · rw [e, nz_var]; exact hω j hj
      have q := nz_sbt (t0 := t0) (n1 := n1) (s2 := s2) (h := h) (nY s) (onz t0 n1 s2 h Γ) (by rw [lo]; exact oQ) _ c [] (Nat.le_refl _) (by rw [lo]; exact oc)
      rw [List.nil_append, List.nil_append, lo] at q
      have q : nz t0 n1 s2 h (onz t0 n1 s2 h Γ) (sbt Γ.length (nY s) 0 c) = nz t0 n1 s2 h (nz t0 n1 s2 h (onz t0 n1 s2 h Γ) (nY s) :: onz t0 n1 s2 h Γ) c := q
      rw [h3, q]
      refine Nat.le_trans (Zx_le T (x := x) (A := c) (by rw [List.length_cons, lo]; exact oc) (by omega) hx (fun j hj => ?_)) (Zx_ms hFm (by omega) (by omega))
      rw [vw_cons, lo]
      by_cases e : j = Γ.length
      · rw [if_pos e]; exact zQ
      · rw [if_neg e]
        rw [List.length_cons, lo] at hj
        exact hω j (by omega)
    have b1 : 1 ≤ fx1.getD 47 0 ∧ 1 ≤ fxq.getD 47 0 := by decide
    exact ⟨fun d => Nat.le_trans (val (tbs1 d) fr1_m (x := fx1.getD 47 0) b1.1 (Nat.zero_le _) (Nat.le_of_ble_eq_true fm.1)) exi_num.1, Nat.le_trans (val tbsq frq_m (x := fxq.getD 47 0) b1.2 b1.2 (Nat.le_of_ble_eq_true fm.2)) exi_num.2⟩
  -- the designated scheme
  have e0 : bnd (cxs Δ1 [] (tAll B C)) 0 = tAll B C := bnd_0 Δ1
  rw [j0, e0, lft_all, Nat.sub_zero] at h2
  obtain ⟨ea, eb⟩ := all_inj h2
  rw [← ea] at hb
  -- the value of an instance
  have inst : ∀ {t0 s2 hv' z : Nat} {n1 h : Nat → Nat}, (∀ y, h y ≤ hv' + max 1 y) → nz t0 n1 s2 h (onz t0 n1 s2 h (cxs Δ1 [] (tAll B C))) (nY s) ≤ z → (∀ y y', y ≤ y' → h y ≤ h y') → nz t0 n1 s2 h (onz t0 n1 s2 h (cxs Δ1 [] (tAll B C))) S ≤ xa t0 n1 s2 hv' 1 C + xt 1 C * z := by
    intro t0 s2 hv' z n1 h H1 hz hmo
    generalize cxs Δ1 [] (tAll B C) = Γ at *
    have lo := onz_len t0 n1 s2 h Γ
    have q := nz_sbt (t0 := t0) (n1 := n1) (s2 := s2) (h := h) (nY s) (onz t0 n1 s2 h Γ) (by rw [lo]; exact oQ) _ c [] (Nat.le_refl _) (by rw [lo]; exact oc)
    rw [List.nil_append, List.nil_append, lo] at q
    have q : nz t0 n1 s2 h (onz t0 n1 s2 h Γ) (sbt Γ.length (nY s) 0 c) = nz t0 n1 s2 h (nz t0 n1 s2 h (onz t0 n1 s2 h Γ) (nY s) :: onz t0 n1 s2 h Γ) c := q
    have q2 := nz_lft (t0 := t0) (n1 := n1) (s2 := s2) (h := h) (onz t0 n1 s2 h Γ) [] _ C [nz t0 n1 s2 h (onz t0 n1 s2 h Γ) (nY s)] (Nat.le_refl _) oC
    rw [List.append_nil, List.append_nil, lo] at q2
    have q2 : nz t0 n1 s2 h (nz t0 n1 s2 h (onz t0 n1 s2 h Γ) (nY s) :: onz t0 n1 s2 h Γ) (lft 0 Γ.length C) = nz t0 n1 s2 h [nz t0 n1 s2 h (onz t0 n1 s2 h Γ) (nY s)] C := q2
    rw [h3, q, ← eb, q2]
    generalize nz t0 n1 s2 h (onz t0 n1 s2 h Γ) (nY s) = z1 at *
    have q3 := nz_xo (t0 := t0) (n1 := n1) (s2 := s2) (hv := hv') (h := h) H1 (t := C) (ω := []) (x := z) (z := z1) oC (fun j hj => absurd hj (Nat.not_lt_zero _))
    have q4 : xt 1 C = xo 0 C + xf 1 0 C := xt_xo 0 C
    rw [q4, Nat.add_mul]
    have q3 : nz t0 n1 s2 h [z1] C ≤ xa t0 n1 s2 hv' 1 C + xo 0 C * z + xf 1 0 C * z1 := q3
    have := Nat.mul_le_mul_left (xf 1 0 C) hz
    omega
  -- the value of the designated scheme
  have base : ∀ {t0 s2 hv' z : Nat} {n1 h : Nat → Nat}, (∀ y, h y ≤ hv' + max 1 y) → h (nz t0 n1 s2 h [] B) ≤ z → nz t0 n1 s2 h [] (tAll B C) ≤ s2 + (xa t0 n1 s2 hv' 1 C + xt 1 C * z) := by
    intro t0 s2 hv' z n1 h H1 hz
    rw [nz_all]
    have q3 := nz_xo (t0 := t0) (n1 := n1) (s2 := s2) (hv := hv') (h := h) H1 (t := C) (ω := []) (x := z) (z := h (nz t0 n1 s2 h [] B)) oC (fun j hj => absurd hj (Nat.not_lt_zero _))
    have q4 : xt 1 C = xo 0 C + xf 1 0 C := xt_xo 0 C
    rw [q4, Nat.add_mul]
    have q3 : nz t0 n1 s2 h [h (nz t0 n1 s2 h [] B)] C ≤ xa t0 n1 s2 hv' 1 C + xo 0 C * z + xf 1 0 C * h (nz t0 n1 s2 h [] B) := q3
    have := Nat.mul_le_mul_left (xf 1 0 C) hz
    omega
  obtain ⟨v, hv1, f1, f2⟩ := xr_form (n1 := fun _ => 1 + 1) (hv := 1) xr1_ok (tbs1 true).2.2.2.1 (tbs1 true).2.2.2.2.1 _ C 1 (Nat.le_refl _) oC (by omega)
  obtain ⟨u, hu1, g1, g2⟩ := xr_form (n1 := ngc) (hv := 0) xrq_ok tbsq.2.2.2.1 tbsq.2.2.2.2.1 _ C 1 (Nat.le_refl _) oC (by omega)
  rw [c18] at hv1 hu1
  have nR := List.all_eq_true.mp nR v hv1
  have nG := List.all_eq_true.mp nG u hu1
  rw [Bool.and_eq_true, Bool.and_eq_true] at nR
  rw [Bool.and_eq_true] at nG
  have n38 := Nat.le_of_ble_eq_true nR.1
  have n50 := Nat.le_of_ble_eq_true nR.2.1
  have n887 := Nat.le_of_ble_eq_true nR.2.2
  have n31 := Nat.le_of_ble_eq_true nG.1
  have n597 := Nat.le_of_ble_eq_true nG.2
  have f2 : xa 0 (fun _ => 1 + 1) (2 + 1) 1 1 C ≤ v.2 := f2
  have B9 := five_txt9 oB b5
  -- values of the variables
  have lone : (∃ X, Δ1 = [X]) ∨ ∃ X Y l, Δ1 = X :: Y :: l := by
    match Δ1, q13 with
    | [], q => cases q
    | [X], _ => exact Or.inl ⟨X, rfl⟩
    | X :: Y :: l, _ => exact Or.inr ⟨X, Y, l, rfl⟩
  have valQ : (∀ d, nz 0 (fun _ => 1 + 1) (2 + 1) (vlr d 1) (onz 0 (fun _ => 1 + 1) (2 + 1) (vlr d 1) (cxs Δ1 [] (tAll B C))) (nY s) ≤ 145) ∧ nz 1 ngc 1 (fun x => x) (onz 1 ngc 1 (fun x => x) (cxs Δ1 [] (tAll B C))) (nY s) ≤ 98 := by
    rcases one_txt oQ tQ with e | ⟨i, hi, e⟩
    · rw [e]
      exact ⟨fun d => by rw [nz_top]; omega, by rw [nz_top]; omega⟩
    rcases lone with ⟨X, eX⟩ | ⟨X, Y, l, eX⟩
    · subst eX
      have tX : tch X = 9 := by
        have q : (tch X + 4) + 0 = 13 := q13
        omega
      have oX : ok 1 X = true := he.1.1
      have hi2 : i < 2 := hi
      have vA : ∀ d, vlr d 1 (nz 0 (fun _ => 1 + 1) (2 + 1) (vlr d 1) [] (tAll B C)) ≤ 50 ∧ (hd B = 1 → vlr d 1 (nz 0 (fun _ => 1 + 1) (2 + 1) (vlr d 1) [] (tAll B C)) ≤ 38) := by
        intro d
        have H1 := vlr_one d
        rcases B9 with ⟨hB, r2, -⟩ | ⟨hB, r4, -⟩
        · have q := H1 (nz 0 (fun _ => 1 + 1) (2 + 1) (vlr d 1) [] B)
          have q2 := r2 (vlr d 1) []
          have q3 := base (t0 := 0) (s2 := 2 + 1) (hv' := 1) (z := 3) (n1 := fun _ => 1 + 1) (h := vlr d 1) H1 (by omega)
          have q4 := H1 (nz 0 (fun _ => 1 + 1) (2 + 1) (vlr d 1) [] (tAll B C))
          have q5 := Nat.mul_le_mul_right 3 f1
          exact ⟨by omega, fun _ => by omega⟩
        · have q := H1 (nz 0 (fun _ => 1 + 1) (2 + 1) (vlr d 1) [] B)
          have q2 := r4 (vlr d 1) []
          have q3 := base (t0 := 0) (s2 := 2 + 1) (hv' := 1) (z := 5) (n1 := fun _ => 1 + 1) (h := vlr d 1) H1 (by omega)
          have q4 := H1 (nz 0 (fun _ => 1 + 1) (2 + 1) (vlr d 1) [] (tAll B C))
          have q5 := Nat.mul_le_mul_right 5 f1
          exact ⟨by omega, fun h => by omega⟩
      have vG : nz 1 ngc 1 (fun x => x) [] (tAll B C) ≤ 31 := by
        have q2 : nz 1 ngc 1 (fun x => x) [] B ≤ 4 := by
          rcases B9 with ⟨-, -, r⟩ | ⟨-, -, r⟩
          · have := r []; omega
          · exact r []
        have q3 := base (t0 := 1) (s2 := 1) (hv' := 0) (z := 4) (n1 := ngc) (h := fun x => x) (fun y => by show y ≤ 0 + max 1 y; omega) q2
        have q5 := Nat.mul_le_mul_right 4 g1
        omega
      by_cases i0 : i = 0
      · rw [e, i0]
        refine ⟨fun d => ?_, ?_⟩
        · rw [nz_var]
          have := (vA d).1
          show vlr d 1 (nz 0 (fun _ => 1 + 1) (2 + 1) (vlr d 1) [] (tAll B C)) ≤ 145
          omega
        · rw [nz_var]
          show nz 1 ngc 1 (fun x => x) [] (tAll B C) ≤ 98
          omega
      · have i1 : i = 1 := by omega
        rw [e, i1]
        have w1 : ∀ x, ∀ j, j < [x].length → vw [x] j ≤ x := fun x j hj => by
          have hj : j < 1 := hj
          have : j = 0 := by omega
          subst this
          exact Nat.le_refl _
        refine ⟨fun d => ?_, ?_⟩
        · rw [nz_var]
          show vlr d 1 (nz 0 (fun _ => 1 + 1) (2 + 1) (vlr d 1) [vlr d 1 (nz 0 (fun _ => 1 + 1) (2 + 1) (vlr d 1) [] (tAll B C))] X) ≤ 145
          obtain ⟨a50, a38⟩ := vA d
          generalize vlr d 1 (nz 0 (fun _ => 1 + 1) (2 + 1) (vlr d 1) [] (tAll B C)) = x at *
          have q := vlr_one d (nz 0 (fun _ => 1 + 1) (2 + 1) (vlr d 1) [x] X)
          rcases B9 with ⟨hB, -⟩ | ⟨hB, -⟩
          · have a38 := a38 hB
            have q2 := Zx_le (tbs1 d) (x := 38) (A := X) (ω := [x]) oX (by omega) (by decide) (fun j hj => Nat.le_trans (w1 x j hj) a38)
            rw [tX] at q2
            have q2 : nz 0 (fun _ => 1 + 1) (2 + 1) (vlr d 1) [x] X ≤ Zx fr1 38 11 := q2
            omega
          · -- the argument's bound is a record
            have hX8 : 8 ≤ hd X ∧ hd X < 16 := by
              rw [e, i1] at hb
              have b1 : bnd (cxs [X] [] (tAll B C)) 1 = X := rfl
              have o16 := (hv 1 (show 1 < 2 by decide)).2
              rw [b1] at o16
              refine ⟨Classical.byContradiction (fun n8 => ?_), o16⟩
              have oLB : ok 2 (lft 0 2 B) = true := by
                have q := ok_lft 0 2 B 0 (by rw [Nat.add_zero]; exact oB)
                exact q
              have hLB : hd (lft 0 2 B) = hd B := hd_lf oB (by omega)
              have oV : ok 2 (lft 1 1 X) = true := by
                have q := ok_expose (Γ := cxs [X] [] (tAll B C)) (k := 1) he.1 (show 1 < 2 by decide)
                rw [b1] at q
                exact q
              have hV : hd (lft 1 1 X) = hd X := hd_lf oX o16
              have hb : bel (cxs [X] [] (tAll B C)) (tVar 1) (lft 0 2 B) = true := hb
              rw [bel_var (show tok (cxs [X] [] (tAll B C), tVar 1, lft 0 2 B) from ⟨he.1, (by decide : ok 2 (tVar 1) = true), oLB⟩) (by omega) (by omega), b1] at hb
              have hb : bel (cxs [X] [] (tAll B C)) (lft 1 1 X) (lft 0 2 B) = true := hb
              rw [bel_no (show tok (cxs [X] [] (tAll B C), lft 1 1 X, lft 0 2 B) from ⟨he.1, oV, oLB⟩) (by omega) (by omega) (fun q => by omega) (by omega)] at hb
              cases hb
            have q2 := rec_nine9 (h := vlr d 1) (d := d) rfl (ω := [x]) (X := X) oX hX8 (by omega) (fun j hj => Nat.le_trans (w1 x j hj) a50)
            omega
        · rw [nz_var]
          show nz 1 ngc 1 (fun x => x) [nz 1 ngc 1 (fun x => x) [] (tAll B C)] X ≤ 98
          have q2 := Zx_le tbsq (x := 31) (A := X) (ω := [nz 1 ngc 1 (fun x => x) [] (tAll B C)]) oX (by omega) (by decide) (fun j hj => Nat.le_trans (w1 _ j hj) vG)
          rw [tX] at q2
          have q2 : nz 1 ngc 1 (fun x => x) [nz 1 ngc 1 (fun x => x) [] (tAll B C)] X ≤ Zx frq 31 11 := q2
          omega
    · subst eX
      have q13' : (tch X + 4) + ((tch Y + 4) + cch l) = 13 := q13
      have oX : ok (cxs (Y :: l) [] (tAll B C)).length X = true := he.1.1
      have oY : ok (cxs l [] (tAll B C)).length Y = true := he.1.2.1
      have pX := tch_pos oX
      have pY := tch_pos oY
      have eΓ : cch (cxs (X :: Y :: l) [] (tAll B C)) = (tch X + 4) + cch (cxs (Y :: l) [] (tAll B C)) := rfl
      have fm := rng_all fm (i := cch (cxs (Y :: l) [] (tAll B C))) (by omega)
      rw [Bool.and_eq_true] at fm
      have fR := Nat.le_of_ble_eq_true fm.1
      have fG := Nat.le_of_ble_eq_true fm.2
      have ic : ∀ (t0 : Nat) (n1 : Nat → Nat) (s2 : Nat) (h : Nat → Nat) (M : Nat), (∀ j, j < (cxs (Y :: l) [] (tAll B C)).length → vw (onz t0 n1 s2 h (cxs (Y :: l) [] (tAll B C))) j ≤ M) → h (nz t0 n1 s2 h (onz t0 n1 s2 h (cxs (Y :: l) [] (tAll B C))) X) ≤ M → vw (onz t0 n1 s2 h (cxs (X :: Y :: l) [] (tAll B C))) i ≤ M := by
        intro t0 n1 s2 h M h1 h2
        have lo := onz_len t0 n1 s2 h (cxs (Y :: l) [] (tAll B C))
        show vw (h (nz t0 n1 s2 h (onz t0 n1 s2 h (cxs (Y :: l) [] (tAll B C))) X) :: onz t0 n1 s2 h (cxs (Y :: l) [] (tAll B C))) i ≤ M
        rw [vw_cons, lo]
        by_cases ei : i = (cxs (Y :: l) [] (tAll B C)).length
        · rw [if_pos ei]; exact h2
        · rw [if_neg ei]
          have hi : i < (cxs (Y :: l) [] (tAll B C)).length + 1 := hi
          exact h1 i (by omega)
      rw [e]
      refine ⟨fun d => ?_, ?_⟩
      · rw [nz_var]
        have T := tbs1 d
        have hω : ∀ j, j < (cxs (Y :: l) [] (tAll B C)).length → vw (onz 0 (fun _ => 1 + 1) (2 + 1) (vlr d 1) (cxs (Y :: l) [] (tAll B C))) j ≤ 114 := fun j hj => Nat.le_trans (onz_chars (n1 := fun _ => 1 + 1) T.1 T.2.1 T.2.2.1 T.2.2.2.1 T.2.2.2.2.1 (cxs (Y :: l) [] (tAll B C)) he.1.2 (by omega) j hj) fR
        refine ic _ _ _ _ 145 (fun j hj => Nat.le_trans (hω j hj) (by decide)) ?_
        have q := vlr_one d (nz 0 (fun _ => 1 + 1) (2 + 1) (vlr d 1) (onz 0 (fun _ => 1 + 1) (2 + 1) (vlr d 1) (cxs (Y :: l) [] (tAll B C))) X)
        have q2 := Zx_le T (x := 114) (A := X) (by rw [onz_len]; exact oX) (by omega) (by decide) (fun j hj => hω j (by rw [onz_len] at hj; exact hj))
        have q3 : Zx fr1 114 (tch X + 2) ≤ Zx fr1 114 6 := Zx_ms fr1_m (by omega) (by omega)
        have q2 : nz 0 (fun _ => 1 + 1) (2 + 1) (vlr d 1) (onz 0 (fun _ => 1 + 1) (2 + 1) (vlr d 1) (cxs (Y :: l) [] (tAll B C))) X ≤ Zx fr1 114 (tch X + 2) := q2
        omega
      · rw [nz_var]
        have T := tbsq
        have hω : ∀ j, j < (cxs (Y :: l) [] (tAll B C)).length → vw (onz 1 ngc 1 (fun x => x) (cxs (Y :: l) [] (tAll B C))) j ≤ 93 := fun j hj => Nat.le_trans (onz_chars (n1 := ngc) T.1 T.2.1 T.2.2.1 T.2.2.2.1 T.2.2.2.2.1 (cxs (Y :: l) [] (tAll B C)) he.1.2 (by omega) j hj) fG
        refine ic _ _ _ _ 98 (fun j hj => Nat.le_trans (hω j hj) (by decide)) ?_
        have q2 := Zx_le T (x := 93) (A := X) (by rw [onz_len]; exact oX) (by omega) (by decide) (fun j hj => hω j (by rw [onz_len] at hj; exact hj))
        have q3 : Zx frq 93 (tch X + 2) ≤ Zx frq 93 6 := Zx_ms frq_m (by omega) (by omega)
        have q2 : nz 1 ngc 1 (fun x => x) (onz 1 ngc 1 (fun x => x) (cxs (Y :: l) [] (tAll B C))) X ≤ Zx frq 93 (tch X + 2) := q2
        show nz 1 ngc 1 (fun x => x) (onz 1 ngc 1 (fun x => x) (cxs (Y :: l) [] (tAll B C))) X ≤ 98
        omega
  refine ⟨fun d => ?_, ?_⟩
  · have q := inst (t0 := 0) (s2 := 2 + 1) (hv' := 1) (z := 145) (n1 := fun _ => 1 + 1) (h := vlr d 1) (vlr_one d) (valQ.1 d) (vlr_mono d 1)
    have q5 := Nat.mul_le_mul_right 145 f1
    omega
  · have q := inst (t0 := 1) (s2 := 1) (hv' := 0) (z := 98) (n1 := ngc) (h := fun x => x) (fun y => by show y ≤ 0 + max 1 y; omega) valQ.2 (fun y y' hy => hy)
    have q5 := Nat.mul_le_mul_right 98 g1
    omega
end PmZg9
/-- PAIRS WITHOUT ALIASES: what is left is a choice under two arguments, or under one inside a constructor -/
def RESTAG9 : Prop := ∀ (f : Nat) (x y : Ty) (Γ : List Ty) (Δ : List (Nat × Ty × Nat)) (t : Ty), H9 f x y Γ Δ → Sh9 x y t → ¬ CHo f t [] → PRn f x y Γ Δ
theorem restAF9_of (R : RESTAG9) : RESTAF9 := by
  intro f x y Γ Δ t H sh h
  rcases h with h | ⟨ch, h⟩
  · exact R f x y Γ Δ t H sh h
  have H' := H
  obtain ⟨hx9, hy9, ⟨he, hv, hd', h20, h47, -⟩, hb, nO, nPS, nPG, -⟩ := H'
  obtain ⟨⟨wt, nt, tt, m3', m3, n9⟩, pm, hbt⟩ := h9_t H sh
  obtain ⟨Δ1, B, C, eΓ, lb, nD, fl, b5, c18, q13, t3, mm⟩ := h
  have ec : cch Γ = 44 := by
    have q := cch_cx (Γ0 := []) (β := tAll B C) Δ1
    have q2 := tch_all B C
    have q3 : cch ([] : List Ty) = 0 := rfl
    rw [eΓ]
    omega
  have d5 : dch Δ ≤ 5 := by omega
  have oA := lb.1.2.1
  refine h9_ntv H sh ?_
  obtain ⟨-, q2, -, n7, n11⟩ := pee_ok f _ _ t wt
  have e := q2.resolve_right (by omega)
  rw [e] at n7 n11
  by_cases k9 : nKd t = 9
  · subst eΓ
    exact nat_e5 (ok_all.mp oA).1 (ok_all.mp oA).2 b5 c18 q13 hv he d5 wt k9 t3
  · exact ntv_nop wt he (nop_five wt (by omega) n7 k9 n11) (by omega)
theorem pairn_qg (R : RESTAG9) : PAIRn := pairn_qf (restAF9_of R)
