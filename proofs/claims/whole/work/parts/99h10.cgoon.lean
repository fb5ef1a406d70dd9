/-! THE CLASS: a value comes back: a term for every type, a selection. -/
section PmH10
variable {d : Nat} {Q : Option Value → pm_S → Prop} {X cnt : Nat} {M : pm_M} {Rf : Nat → Nat → Nat} {K L : Nat → Nat} {n s zf zv zr st : Nat}
theorem c_vpart {i : Int} {g : Nat} (h : MR X Rf K L n zf zv zr) (hg : g < 3) (i0 : 0 ≤ i) (i1 : i < zv) (hQ : Q (some (.int (zI (M (Rf 51 (1 + g)) i)))) (zM M, Rf, K, L, n, s)) : pm_Wc (d + 1) 132 [.ref 51, .int (zI i), .int (zI (g : Int))] (zM M, Rf, K, L, n, s) Q := by
  have hV := h.2.2.1
  have hG := h.1
  have vz := hV.2.2.2.2.1
  have cg : g = 0 ∨ g = 1 ∨ g = 2 := by omega
  rcases cg with rfl | rfl | rfl
  · skip
    refine wc_in (ls0 := [some (.ref 51), some (.int (zI i)), some (.int (zI (((0 : Nat) : Int))))]) (by decide) (Nat.le_of_ble_eq_true rfl) rfl rfl ?_
    refine wp_iload_n d132_0 rfl ?_
    refine wz_if_ne (t := 13) d132_1 (by decide) ⟨by omega, by omega⟩ (fun hb => absurd (by omega) hb) (fun _ => ?_)
    refine wp_aload_n d132_4 rfl ?_
    refine wp_getR (q := Rf 51 1) d132_5 rfl (hG.o (by decide) rfl) (by decide) rfl (hV.1 1 (by decide)).1 ?_
    refine wp_iload_n d132_8 rfl ?_
    refine wz_iald (z := zv) (v := M (Rf 51 1) i) d132_9 (hV.1 1 (by decide)) (by omega) (by omega) (by omega) (rfl) ?_
    refine wp_goto (t := 33) d132_10 (by decide) ?_
    exact wp_ret d132_33 rfl (hQ)
  · skip
    refine wc_in (ls0 := [some (.ref 51), some (.int (zI i)), some (.int (zI (((1 : Nat) : Int))))]) (by decide) (Nat.le_of_ble_eq_true rfl) rfl rfl ?_
    refine wp_iload_n d132_0 rfl ?_
    refine wz_if_ne (t := 13) d132_1 (by decide) ⟨by omega, by omega⟩ (fun _ => ?_) (fun hb => absurd hb (by omega))
    refine wp_iload_n d132_13 rfl ?_
    refine wz_iconst d132_14 ?_
    refine wz_icmp_ne (t := 27) d132_15 (by decide) ⟨by omega, by omega⟩ ⟨by omega, by omega⟩ (fun hb => absurd (by omega) hb) (fun _ => ?_)
    refine wp_aload_n d132_18 rfl ?_
    refine wp_getR (q := Rf 51 2) d132_19 rfl (hG.o (by decide) rfl) (by decide) rfl (hV.1 2 (by decide)).1 ?_
    refine wp_iload_n d132_22 rfl ?_
    refine wz_iald (z := zv) (v := M (Rf 51 2) i) d132_23 (hV.1 2 (by decide)) (by omega) (by omega) (by omega) (rfl) ?_
    refine wp_goto (t := 33) d132_24 (by decide) ?_
    exact wp_ret d132_33 rfl (hQ)
  · skip
    refine wc_in (ls0 := [some (.ref 51), some (.int (zI i)), some (.int (zI (((2 : Nat) : Int))))]) (by decide) (Nat.le_of_ble_eq_true rfl) rfl rfl ?_
    refine wp_iload_n d132_0 rfl ?_
    refine wz_if_ne (t := 13) d132_1 (by decide) ⟨by omega, by omega⟩ (fun _ => ?_) (fun hb => absurd hb (by omega))
    refine wp_iload_n d132_13 rfl ?_
    refine wz_iconst d132_14 ?_
    refine wz_icmp_ne (t := 27) d132_15 (by decide) ⟨by omega, by omega⟩ ⟨by omega, by omega⟩ (fun _ => ?_) (fun hb => absurd hb (by omega))
    refine wp_aload_n d132_27 rfl ?_
    refine wp_getR (q := Rf 51 3) d132_28 rfl (hG.o (by decide) rfl) (by decide) rfl (hV.1 3 (by decide)).1 ?_
    refine wp_iload_n d132_31 rfl ?_
    refine wz_iald (z := zv) (v := M (Rf 51 3) i) d132_32 (hV.1 3 (by decide)) (by omega) (by omega) (by omega) (rfl) ?_
    exact wp_ret d132_33 rfl (hQ)
theorem c_setPart {i v : Int} {g : Nat} (h : MR X Rf K L n zf zv zr) (hg : g < 3) (i0 : 0 ≤ i) (i1 : i < zv) (hQ : Q none (zM (mset M (Rf 51 (1 + g)) i v), Rf, K, L, n, s)) : pm_Wc (d + 1) 133 [.ref 51, .int (zI i), .int (zI (g : Int)), .int (zI v)] (zM M, Rf, K, L, n, s) Q := by
  have hV := h.2.2.1
  have hG := h.1
  have vz := hV.2.2.2.2.1
  have cg : g = 0 ∨ g = 1 ∨ g = 2 := by omega
  rcases cg with rfl | rfl | rfl
  · skip
    refine wc_in (ls0 := [some (.ref 51), some (.int (zI i)), some (.int (zI (((0 : Nat) : Int)))), some (.int (zI v))]) (by decide) (Nat.le_of_ble_eq_true rfl) rfl rfl ?_
    refine wp_iload_n d133_0 rfl ?_
    refine wz_if_ne (t := 14) d133_1 (by decide) ⟨by omega, by omega⟩ (fun hb => absurd (by omega) hb) (fun _ => ?_)
    refine wp_aload_n d133_4 rfl ?_
    refine wp_getR (q := Rf 51 1) d133_5 rfl (hG.o (by decide) rfl) (by decide) rfl (hV.1 1 (by decide)).1 ?_
    refine wp_iload_n d133_8 rfl ?_
    refine wp_iload_n d133_9 rfl ?_
    refine wz_iast (z := zv) d133_10 (hV.1 1 (by decide)) (by omega) (by omega) (by omega) ?_
    refine wp_goto (t := 36) d133_11 (by decide) ?_
    exact wp_ret d133_36 rfl (hQ)
  · skip
    refine wc_in (ls0 := [some (.ref 51), some (.int (zI i)), some (.int (zI (((1 : Nat) : Int)))), some (.int (zI v))]) (by decide) (Nat.le_of_ble_eq_true rfl) rfl rfl ?_
    refine wp_iload_n d133_0 rfl ?_
    refine wz_if_ne (t := 14) d133_1 (by decide) ⟨by omega, by omega⟩ (fun _ => ?_) (fun hb => absurd hb (by omega))
    refine wp_iload_n d133_14 rfl ?_
    refine wz_iconst d133_15 ?_
    refine wz_icmp_ne (t := 29) d133_16 (by decide) ⟨by omega, by omega⟩ ⟨by omega, by omega⟩ (fun hb => absurd (by omega) hb) (fun _ => ?_)
    refine wp_aload_n d133_19 rfl ?_
    refine wp_getR (q := Rf 51 2) d133_20 rfl (hG.o (by decide) rfl) (by decide) rfl (hV.1 2 (by decide)).1 ?_
    refine wp_iload_n d133_23 rfl ?_
    refine wp_iload_n d133_24 rfl ?_
    refine wz_iast (z := zv) d133_25 (hV.1 2 (by decide)) (by omega) (by omega) (by omega) ?_
    refine wp_goto (t := 36) d133_26 (by decide) ?_
    exact wp_ret d133_36 rfl (hQ)
  · skip
    refine wc_in (ls0 := [some (.ref 51), some (.int (zI i)), some (.int (zI (((2 : Nat) : Int)))), some (.int (zI v))]) (by decide) (Nat.le_of_ble_eq_true rfl) rfl rfl ?_
    refine wp_iload_n d133_0 rfl ?_
    refine wz_if_ne (t := 14) d133_1 (by decide) ⟨by omega, by omega⟩ (fun _ => ?_) (fun hb => absurd hb (by omega))
    refine wp_iload_n d133_14 rfl ?_
    refine wz_iconst d133_15 ?_
    refine wz_icmp_ne (t := 29) d133_16 (by decide) ⟨by omega, by omega⟩ ⟨by omega, by omega⟩ (fun _ => ?_) (fun hb => absurd hb (by omega))
    refine wp_aload_n d133_29 rfl ?_
    refine wp_getR (q := Rf 51 3) d133_30 rfl (hG.o (by decide) rfl) (by decide) rfl (hV.1 3 (by decide)).1 ?_
    refine wp_iload_n d133_33 rfl ?_
    refine wp_iload_n d133_34 rfl ?_
    refine wz_iast (z := zv) d133_35 (hV.1 3 (by decide)) (by omega) (by omega) (by omega) ?_
    exact wp_ret d133_36 rfl (hQ)
end PmH10
section PmH10b
variable {V V' : pm_M} {X cnt st st' vs sc fr zf zv zf' zv' pc pc' q : Nat} {H : Int → Option Ty} {f : Fr} {k : List Fr}
theorem BK.pop (bk : BK V X cnt st vs sc (q + 1) zf zv H (f :: k) pc) (hX : X = 16 ∨ X = 23) (vk : ∀ (p : Nat) (i : Int), LoP p → (90 ≤ p ∧ p ≤ 93 → 0 ≤ i ∧ i < vs) → (94 ≤ p ∧ p ≤ 97 → 0 ≤ i ∧ i < q) → p ≠ 43 → V' p i = V p i) (e9 : V' 43 9 = (q : Int)) (e10 : V' 43 10 = V 43 10) (e14 : V' 43 14 = 0) (e15 : V' 43 15 = (st' : Int)) (hp : pc' + 20 * st ≤ pc + 20 * st') (hs : st ≤ st') (hs6 : st' ≤ 60) (z1 : zf ≤ zf') (z2 : zv ≤ zv') : BK V' X cnt st' vs sc q zf' zv' H k pc' ∧ Kpk V V' X vs sc H := by
  have hi : ∀ i : Int, H i ≠ none → 0 ≤ i ∧ i < vs := fun i hn => by
    cases q : H i with
    | none => exact absurd q hn
    | some v => exact (bk.2.1 i v q).1
  have kp : Kpk V V' X vs sc H := ⟨fun p i p1 p2 => vk p i (by unfold LoP; omega) (by omega) (by omega) (by omega), fun p i p1 p2 _ _ => vk p i (by unfold LoP; omega) (by omega) (by omega) (by omega), fun i i0 i1 => vk 90 i (by unfold LoP; omega) (fun _ => ⟨i0, i1⟩) (by omega) (by omega), fun i g hn hg => vk (91 + g) i (by unfold LoP; omega) (fun _ => hi i hn) (by omega) (by omega)⟩
  obtain ⟨⟨c1, c2, c3, c4, c5⟩, h1, ⟨h2, h3, h4, h5, h6⟩, h7⟩ := bk
  obtain ⟨h8, h9⟩ := h7.below
  refine ⟨⟨⟨by rw [vk 51 4 (by unfold LoP; omega) (by omega) (by omega) (by omega)]; exact c1, by rw [e10]; exact c2, e9, e14, e15⟩, h1.keep kp (Nat.le_refl _), ⟨by omega, hs6, by omega, by omega, by omega⟩, ?_⟩, kp⟩
  have hl : (if nKd f.1 = 10 then V 96 (q : Int) else (vs : Int)) ≤ vs := by
    by_cases c : nKd f.1 = 10
    · rw [if_pos c]
      obtain ⟨-, -, -, -, g⟩ := h8
      have := (g c).2.2.1.2
      omega
    · rw [if_neg c]; exact Int.le_refl _
  exact h9.keep kp (fun _ _ x => x) (Nat.le_refl _) hs hl hl (fun p r p1 p2 r0 r1 => vk p r (by unfold LoP; omega) (by omega) (fun _ => ⟨r0, r1⟩) (by omega)) (fun i i0 i1 hn => ⟨hn, fun g hg => vk (91 + g) i (by unfold LoP; omega) (fun _ => ⟨i0, by omega⟩) (by omega) (by omega)⟩)
theorem HPk.clo {V : pm_M} {i : Int} {t ρ : Ty} (h : HPk V X cnt vs sc H) (hv : H i = some (vC t ρ)) : (0 ≤ i ∧ i < vs) ∧ ∃ F, (nKd t = 6 ∨ nKd t = 8) ∧ NVc V X cnt F t (V 90 i) ∧ ECe V X cnt sc H ρ (V 91 i) := by
  obtain ⟨h1, h2⟩ := h i _ hv
  refine ⟨h1, ?_⟩
  rcases h2 with ⟨F, t', ρ', e, g2, g3, g4⟩ | ⟨m, x, y, z, e, -⟩
  · unfold vC at e
    injection e with e1 e2
    subst e1; subst e2
    exact ⟨F, g2, g3, g4⟩
  · cases e
theorem HPk.rec {V : pm_M} {i : Int} {m : Nat} {x : Ty} (h : HPk V X cnt vs sc H) (hv : H i = some (.tag m x)) : (0 ≤ i ∧ i < vs) ∧ m < 8 ∧ (0 ≤ V 90 i ∧ V 90 i < cnt) ∧ V (X + 1) (V 90 i) = 5 ∧ V (X + 3) (V 90 i) = (m : Int) ∧ (∃ a b c, Std.Format.tag m x = vR m a b c) ∧ ∀ g : Nat, g < 3 → bit m g = true → H (V (91 + g) i) = some (rP (.tag m x) g) := by
  obtain ⟨h1, h2⟩ := h i _ hv
  refine ⟨h1, ?_⟩
  rcases h2 with ⟨F, t', ρ', e, -⟩ | ⟨m', x', y', z', e, g2, g3, g4, g5, g6⟩
  · cases e
  · have e0 := e
    unfold vR at e
    injection e with e1 e2
    subst e1
    rw [e0] at g6 ⊢
    exact ⟨g2, g3, g4, g5, ⟨x', y', z', rfl⟩, g6⟩
end PmH10b
section PmH10c
variable {d : Nat} {Q : Option Value → pm_S → Prop} {X cnt : Nat} {M : pm_M} {Rf : Nat → Nat → Nat} {K L : Nat → Nat} {n s zf zv zr st vs sc q g : Nat} {H : Int → Option Ty} {t ρ w v : Ty} {k : List Fr}
theorem c_goOn9 (h : MR X Rf K L n zf zv zr) (hM : ∀ p i, R32 (M p i)) (c6 : cnt ≤ 60) (bk : BK (cvw M Rf) X cnt st vs sc (q + 1) zf zv H ((t, ρ, w, g) :: k) (vpF (t, ρ, w, g) + vpK k)) (hv : H (cvw M Rf 43 13) = some v) (hk : nKd t = 9) (hs : isC v 8 = true) (hq : EnP Q X cnt M Rf K L n s zf zv zr st (.inr (v, (t, ρ, w, g) :: k))) : pm_Wc (d + 5) 122 [.ref 43, .int (zI (q : Int))] (zM M, Rf, K, L, n, s) Q := by
  have bkc := bk
  obtain ⟨⟨b1, b2, b3, b4, b5⟩, hh, ⟨b6, b7, b8, b9, b10⟩, fk⟩ := bkc
  obtain ⟨fm, fkb⟩ := fk.below
  obtain ⟨f2, ⟨F, nv, hF⟩, ec, f6, f7⟩ := fm
  have nv : NVc (cvw M Rf) X cnt F t (cvw M Rf 94 (q : Int)) := nv
  have ec : ECe (cvw M Rf) X cnt sc H ρ (cvw M Rf 95 (q : Int)) := ec
  have kd := nv.kd
  have hG := h.1
  have hX := h.2.2.2.2.2.2
  have hX0 := hX
  have r8 := h.2.2.2.2.2.1
  have hFr := h.2.1
  have hVr := h.2.2.1
  have fz := hFr.2.2.2.2.1
  have vz := hVr.2.2.2.2.1
  have vn := vN_is nv.sp
  have l43 : LoP 43 := by unfold LoP; omega
  have x1 : ∀ g : Nat, g ≤ 6 → ∀ y : Int, cvw M Rf (X + g) y = M (X + g) y := fun g hg y => cvw_o (by omega)
  have x43 : ∀ y : Int, cvw M Rf 43 y = M 43 y := fun y => cvw_o (by omega)
  rw [x43] at hv b2 b3 b4 b5
  have f0 : cvw M Rf 94 (q : Int) = M (Rf 43 0) (q : Int) := cvw_f (g := 0) (by omega)
  rw [f0] at nv kd
  generalize ej : M (Rf 43 0) (q : Int) = j at *
  generalize ei : M 43 13 = i at *
  have i0 := (hh _ _ hv).1
  obtain ⟨k1, k2, k3, k4, k5, k6, k7, k8, k9, k10⟩ := kd
  rw [x1 1 (by omega)] at k3
  have e9 : M 43 9 = (q : Int) + 1 := by rw [b3]; rfl
  obtain ⟨t', ρ', ev, k8'⟩ := isC_is hs
  rw [ev] at hv
  obtain ⟨-, F', k68, nv', ec'⟩ := hh.clo hv
  have g0 : cvw M Rf 90 i = M (Rf 51 0) i := cvw_v (g := 0) (by omega)
  have g1 : cvw M Rf 91 i = M (Rf 51 1) i := cvw_v (g := 1) (by omega)
  rw [g0] at nv'
  rw [g1] at ec'
  generalize ejj : M (Rf 51 0) i = jj at *
  have kd' := nv'.kd
  have nb := nv'.body k68
  rw [x1 5 (by omega)] at nb
  have kx := kd'.2.2.1
  rw [x1 1 (by omega)] at kx
  have em : mv (.inr (v, (t, ρ, w, g) :: k)) = some (true, .inl (nY t', ρ', k)) := by rw [mvR_9c hk, if_pos hs, ev]; rfl
  rcases hX with rfl | rfl
  · skip
    refine wc_in (ls0 := [some (.ref 43), some (.int (zI (q : Int))), none]) (by decide) (Nat.le_of_ble_eq_true rfl) rfl rfl ?_
    refine wp_aload_n d122_0 rfl ?_
    refine wp_getR (q := Rf 43 0) d122_1 rfl (hG.o (by decide) rfl) (by decide) rfl (hFr.1 0 (by decide)).1 ?_
    refine wp_iload_n d122_4 rfl ?_
    refine wz_iald (z := zf) (v := j) d122_5 (hFr.1 0 (by decide)) (by omega) (by omega) (by omega) (ej) ?_
    refine wp_istore_n d122_6 (Nat.le_of_ble_eq_true rfl) rfl ?_
    refine wp_aload_n d122_7 rfl ?_
    refine wp_getR (q := 16) d122_8 rfl (hG.o (by decide) rfl) (by decide) r8 (by decide) ?_
    refine wp_getR (q := 17) d122_11 rfl (hG.o (by decide) rfl) (by decide) (hG.r (by decide +kernel)) (by decide) ?_
    refine wp_iload_n d122_14 rfl ?_
    refine wz_iald (z := 60) (v := 4) d122_15 (hG.a (by decide) rfl rfl) (by omega) (by omega) (by decide) (by rw [k3, hk]; rfl) ?_
    refine wp_table (t := 60) d122_16 (by decide +kernel) ?_
    refine wp_aload_n d122_60 rfl ?_
    refine wp_dupr d122_61 ?_
    refine wz_getI (v := (q : Int) + 1) d122_62 rfl (hG.o (by decide) rfl) (by decide) (e9) ?_
    refine wz_iconst d122_65 ?_
    refine wz_isub d122_66 ?_
    refine wz_putI (i := 9) d122_67 rfl (hG.o (by decide) rfl) rfl (by decide) rfl ?_
    refine wp_aload_n d122_70 rfl ?_
    refine wp_aload_n d122_71 rfl ?_
    refine wz_getI (v := i) d122_72 rfl (hG.o (by decide) rfl) (by decide) (ei) ?_
    refine wz_iconst d122_75 ?_
    refine wp_virt (as := [.int (zI 3), .int (zI i)]) (rest := []) d122_76 rfl rfl rfl (hG.o (by decide) rfl) rfl rfl (Nat.le_of_ble_eq_true rfl) ?_
    have s0 := h.sep.1 0 (by omega)
    have s1 := h.sep.1 1 (by omega)
    refine wc_deep (show d + 1 ≤ d + 4 by omega) ?_
    refine c_isOfKind (i := i) (j := jj) (kd := 3) (X := 16) h i0.1 (by omega) (by rw [mset_i' (by omega)]; exact ejj) kd'.1.1 (by omega) (by rw [mset_i' (by omega), kx, k8']; rfl) ⟨by omega, by omega⟩ ?_
    refine wz_if_eq (t := 206) d122_79 (by decide) ⟨by omega, by omega⟩ (fun hb => absurd hb (by omega)) (fun _ => ?_)
    refine wp_aload_n d122_82 rfl ?_
    refine wp_virt (as := []) (rest := []) d122_83 rfl rfl rfl (hG.o (by decide) rfl) rfl rfl (Nat.le_of_ble_eq_true rfl) ?_
    refine wc_deep (show d + 1 ≤ d + 4 by omega) ?_
    refine c_countStep (st := st) hG (by rw [mset_i' (by omega), mset_i' (by omega)]; exact b5) b7 (fun h60 => ?_) (fun h60 => ?_)
    · skip
      refine wz_if_eq (t := 206) d122_86 (by decide) ⟨by omega, by omega⟩ (fun hb => absurd hb (by omega)) (fun _ => ?_)
      refine wp_aload_n d122_89 rfl ?_
      refine wp_aload_n d122_90 rfl ?_
      refine wp_getR (q := 16) d122_91 rfl (hG.o (by decide) rfl) (by decide) r8 (by decide) ?_
      refine wp_getR (q := 21) d122_94 rfl (hG.o (by decide) rfl) (by decide) (hG.r (by decide +kernel)) (by decide) ?_
      refine wp_aload_n d122_97 rfl ?_
      refine wp_getR (q := 51) d122_98 rfl (hG.o (by decide) rfl) (by decide) (hG.r (by decide +kernel)) (by decide) ?_
      refine wp_getR (q := Rf 51 0) d122_101 rfl (hG.o (by decide) rfl) (by decide) rfl (hVr.1 0 (by decide)).1 ?_
      refine wp_aload_n d122_104 rfl ?_
      refine wz_getI (v := i) d122_105 rfl (hG.o (by decide) rfl) (by decide) ((by rw [mset_i' (by omega), mset_i' (by omega), mset_i' (by omega)]; exact ei)) ?_
      refine wz_iald (z := zv) (v := jj) d122_108 (hVr.1 0 (by decide)) (by omega) (by omega) (by omega) ((by rw [mset_i' (by omega), mset_i' (by omega), mset_i' (by omega)]; exact ejj)) ?_
      refine wz_iald (z := 60) (v := M 21 jj) d122_109 (hG.a (by decide) rfl rfl) (by omega) (by omega) (by decide) (by rw [mset_i' (by omega), mset_i' (by omega), mset_i' (by omega)]) ?_
      refine wp_aload_n d122_110 rfl ?_
      refine wp_getR (q := 51) d122_111 rfl (hG.o (by decide) rfl) (by decide) (hG.r (by decide +kernel)) (by decide) ?_
      refine wp_getR (q := Rf 51 1) d122_114 rfl (hG.o (by decide) rfl) (by decide) rfl (hVr.1 1 (by decide)).1 ?_
      refine wp_aload_n d122_117 rfl ?_
      refine wz_getI (v := i) d122_118 rfl (hG.o (by decide) rfl) (by decide) ((by rw [mset_i' (by omega), mset_i' (by omega), mset_i' (by omega)]; exact ei)) ?_
      refine wz_iald (z := zv) (v := M (Rf 51 1) i) d122_121 (hVr.1 1 (by decide)) (by omega) (by omega) (by omega) (by rw [mset_i' (by omega), mset_i' (by omega), mset_i' (by omega)]) ?_
      refine wp_virt (as := [.int (zI (M (Rf 51 1) i)), .int (zI (M 21 jj))]) (rest := []) d122_122 rfl rfl rfl (hG.o (by decide) rfl) rfl rfl (Nat.le_of_ble_eq_true rfl) ?_
      refine wc_deep (show d + 1 ≤ d + 4 by omega) ?_
      refine c_goTo hG ?_
      refine wp_goto (t := 206) d122_125 (by decide) ?_
      have vw : ∀ (p : Nat) (y : Int), LoP p → (90 ≤ p ∧ p ≤ 93 → 0 ≤ y ∧ y < vs) → (94 ≤ p ∧ p ≤ 97 → 0 ≤ y ∧ y < q) → p ≠ 43 → cvw (mset (mset (mset (mset (mset (mset M 43 9 ((q : Int) + 1 - 1)) 43 14 0) 43 15 ((st : Int) + 1)) 43 11 (M 21 jj)) 43 12 (M (Rf 51 1) i)) 43 13 (-1)) Rf p y = cvw M Rf p y := fun p y lo _ _ hn => by rw [cvw43 (Or.inl rfl) h lo, cvw43 (Or.inl rfl) h lo, cvw43 (Or.inl rfl) h lo, cvw43 (Or.inl rfl) h lo, cvw43 (Or.inl rfl) h lo, cvw43 (Or.inl rfl) h lo, if_neg (by omega), if_neg (by omega), if_neg (by omega), if_neg (by omega), if_neg (by omega), if_neg (by omega)]
      have l43' := l43
      obtain ⟨b', kp⟩ := bk.pop (V' := cvw (mset (mset (mset (mset (mset (mset M 43 9 ((q : Int) + 1 - 1)) 43 14 0) 43 15 ((st : Int) + 1)) 43 11 (M 21 jj)) 43 12 (M (Rf 51 1) i)) 43 13 (-1)) Rf) (st' := st + 1) (zf' := zf) (zv' := zv) (pc' := vN (nY t') + vpK k) hX0 vw (by rw [cvw43 (Or.inl rfl) h l43, cvw43 (Or.inl rfl) h l43, cvw43 (Or.inl rfl) h l43, cvw43 (Or.inl rfl) h l43, cvw43 (Or.inl rfl) h l43, cvw43 (Or.inl rfl) h l43, if_neg (by omega), if_neg (by omega), if_neg (by omega), if_neg (by omega), if_neg (by omega), if_pos ⟨rfl, rfl⟩]; omega) (by rw [cvw43 (Or.inl rfl) h l43, cvw43 (Or.inl rfl) h l43, cvw43 (Or.inl rfl) h l43, cvw43 (Or.inl rfl) h l43, cvw43 (Or.inl rfl) h l43, cvw43 (Or.inl rfl) h l43, if_neg (by omega), if_neg (by omega), if_neg (by omega), if_neg (by omega), if_neg (by omega), if_neg (by omega)]) (by rw [cvw43 (Or.inl rfl) h l43, cvw43 (Or.inl rfl) h l43, cvw43 (Or.inl rfl) h l43, cvw43 (Or.inl rfl) h l43, cvw43 (Or.inl rfl) h l43, cvw43 (Or.inl rfl) h l43, if_neg (by omega), if_neg (by omega), if_neg (by omega), if_neg (by omega), if_pos ⟨rfl, rfl⟩]) (by rw [cvw43 (Or.inl rfl) h l43, cvw43 (Or.inl rfl) h l43, cvw43 (Or.inl rfl) h l43, cvw43 (Or.inl rfl) h l43, cvw43 (Or.inl rfl) h l43, cvw43 (Or.inl rfl) h l43, if_neg (by omega), if_neg (by omega), if_neg (by omega), if_pos ⟨rfl, rfl⟩]; rfl) (by have := nb.2.2.1; omega) (by omega) (by omega) (Nat.le_refl _) (Nat.le_refl _)
      have nbk := nb.keep (V' := cvw (mset (mset (mset (mset (mset (mset M 43 9 ((q : Int) + 1 - 1)) 43 14 0) 43 15 ((st : Int) + 1)) 43 11 (M 21 jj)) 43 12 (M (Rf 51 1) i)) 43 13 (-1)) Rf) kp.1
      have ea := ec'.keep (V' := cvw (mset (mset (mset (mset (mset (mset M 43 9 ((q : Int) + 1 - 1)) 43 14 0) 43 15 ((st : Int) + 1)) 43 11 (M 21 jj)) 43 12 (M (Rf 51 1) i)) 43 13 (-1)) Rf) kp.1 kp.2.1 (fun _ _ x => x) (Nat.le_refl _)
      have mx : MX 16 M Rf K L n s zf zv zr (mset (mset (mset (mset (mset (mset M 43 9 ((q : Int) + 1 - 1)) 43 14 0) 43 15 ((st : Int) + 1)) 43 11 (M 21 jj)) 43 12 (M (Rf 51 1) i)) 43 13 (-1)) Rf K L n s zf zv := ((((((MX.refl h hM).set (Or.inl ⟨rfl, by omega, by omega⟩) ⟨by omega, by omega⟩).set (Or.inl ⟨rfl, by omega, by omega⟩) ⟨by omega, by omega⟩).set (Or.inl ⟨rfl, by omega, by omega⟩) ⟨by omega, by omega⟩).set (Or.inl ⟨rfl, by omega, by omega⟩) (hM _ _)).set (Or.inl ⟨rfl, by omega, by omega⟩) (hM _ _)).set (Or.inl ⟨rfl, by omega, by omega⟩) ⟨by omega, by omega⟩
      exact wp_ret d122_206 rfl (hq.1 true _ _ Rf K L n s zf zv em mx (by rw [mset_i' (by omega), mset_i' (by omega), mset_i' (by omega), mset_i' (by omega), mset_i' (by omega), mset_i' (by omega)]) ⟨vs, sc, q, H, b', by rw [cvw43 (Or.inl rfl) h l43, if_pos ⟨rfl, rfl⟩], ⟨F' - 1, by rw [cvw43 (Or.inl rfl) h l43, cvw43 (Or.inl rfl) h l43, cvw43 (Or.inl rfl) h l43, if_neg (by omega), if_neg (by omega), if_pos ⟨rfl, rfl⟩]; exact nbk, by have := nv'.2.2.2; show q + (F' - 1) ≤ 24 * (st + 1 + 1); omega⟩, by rw [cvw43 (Or.inl rfl) h l43, cvw43 (Or.inl rfl) h l43, if_neg (by omega), if_pos ⟨rfl, rfl⟩]; exact ea⟩)
    · skip
      refine wz_if_eq (t := 206) d122_86 (by decide) ⟨by omega, by omega⟩ (fun _ => ?_) (fun hb => absurd (by omega) hb)
      exact wp_ret d122_206 rfl (hq.2 _ _ em h60 ((((MX.refl h hM).set (Or.inl ⟨rfl, by omega, by omega⟩) ⟨by omega, by omega⟩).set (Or.inl ⟨rfl, by omega, by omega⟩) ⟨by omega, by omega⟩).set (Or.inl ⟨rfl, by omega, by omega⟩) ⟨by omega, by omega⟩) (mset_s _ _ _ _) (by rw [mset_i' (by omega), mset_i' (by omega), mset_i' (by omega), b5, h60]; rfl) (by rw [mset_i' (by omega), mset_i' (by omega), mset_i' (by omega)]))
  · skip
    refine wc_in (ls0 := [some (.ref 43), some (.int (zI (q : Int))), none]) (by decide) (Nat.le_of_ble_eq_true rfl) rfl rfl ?_
    refine wp_aload_n d122_0 rfl ?_
    refine wp_getR (q := Rf 43 0) d122_1 rfl (hG.o (by decide) rfl) (by decide) rfl (hFr.1 0 (by decide)).1 ?_
    refine wp_iload_n d122_4 rfl ?_
    refine wz_iald (z := zf) (v := j) d122_5 (hFr.1 0 (by decide)) (by omega) (by omega) (by omega) (ej) ?_
    refine wp_istore_n d122_6 (Nat.le_of_ble_eq_true rfl) rfl ?_
    refine wp_aload_n d122_7 rfl ?_
    refine wp_getR (q := 23) d122_8 rfl (hG.o (by decide) rfl) (by decide) r8 (by decide) ?_
    refine wp_getR (q := 24) d122_11 rfl (hG.o (by decide) rfl) (by decide) (hG.r (by decide +kernel)) (by decide) ?_
    refine wp_iload_n d122_14 rfl ?_
    refine wz_iald (z := 60) (v := 4) d122_15 (hG.a (by decide) rfl rfl) (by omega) (by omega) (by decide) (by rw [k3, hk]; rfl) ?_
    refine wp_table (t := 60) d122_16 (by decide +kernel) ?_
    refine wp_aload_n d122_60 rfl ?_
    refine wp_dupr d122_61 ?_
    refine wz_getI (v := (q : Int) + 1) d122_62 rfl (hG.o (by decide) rfl) (by decide) (e9) ?_
    refine wz_iconst d122_65 ?_
    refine wz_isub d122_66 ?_
    refine wz_putI (i := 9) d122_67 rfl (hG.o (by decide) rfl) rfl (by decide) rfl ?_
    refine wp_aload_n d122_70 rfl ?_
    refine wp_aload_n d122_71 rfl ?_
    refine wz_getI (v := i) d122_72 rfl (hG.o (by decide) rfl) (by decide) (ei) ?_
    refine wz_iconst d122_75 ?_
    refine wp_virt (as := [.int (zI 3), .int (zI i)]) (rest := []) d122_76 rfl rfl rfl (hG.o (by decide) rfl) rfl rfl (Nat.le_of_ble_eq_true rfl) ?_
    have s0 := h.sep.1 0 (by omega)
    have s1 := h.sep.1 1 (by omega)
    refine wc_deep (show d + 1 ≤ d + 4 by omega) ?_
    refine c_isOfKind (i := i) (j := jj) (kd := 3) (X := 23) h i0.1 (by omega) (by rw [mset_i' (by omega)]; exact ejj) kd'.1.1 (by omega) (by rw [mset_i' (by omega), kx, k8']; rfl) ⟨by omega, by omega⟩ ?_
    refine wz_if_eq (t := 206) d122_79 (by decide) ⟨by omega, by omega⟩ (fun hb => absurd hb (by omega)) (fun _ => ?_)
    refine wp_aload_n d122_82 rfl ?_
    refine wp_virt (as := []) (rest := []) d122_83 rfl rfl rfl (hG.o (by decide) rfl) rfl rfl (Nat.le_of_ble_eq_true rfl) ?_
    refine wc_deep (show d + 1 ≤ d + 4 by omega) ?_
    refine c_countStep (st := st) hG (by rw [mset_i' (by omega), mset_i' (by omega)]; exact b5) b7 (fun h60 => ?_) (fun h60 => ?_)
    · skip
      refine wz_if_eq (t := 206) d122_86 (by decide) ⟨by omega, by omega⟩ (fun hb => absurd hb (by omega)) (fun _ => ?_)
      refine wp_aload_n d122_89 rfl ?_
      refine wp_aload_n d122_90 rfl ?_
      refine wp_getR (q := 23) d122_91 rfl (hG.o (by decide) rfl) (by decide) r8 (by decide) ?_
      refine wp_getR (q := 28) d122_94 rfl (hG.o (by decide) rfl) (by decide) (hG.r (by decide +kernel)) (by decide) ?_
      refine wp_aload_n d122_97 rfl ?_
      refine wp_getR (q := 51) d122_98 rfl (hG.o (by decide) rfl) (by decide) (hG.r (by decide +kernel)) (by decide) ?_
      refine wp_getR (q := Rf 51 0) d122_101 rfl (hG.o (by decide) rfl) (by decide) rfl (hVr.1 0 (by decide)).1 ?_
      refine wp_aload_n d122_104 rfl ?_
      refine wz_getI (v := i) d122_105 rfl (hG.o (by decide) rfl) (by decide) ((by rw [mset_i' (by omega), mset_i' (by omega), mset_i' (by omega)]; exact ei)) ?_
      refine wz_iald (z := zv) (v := jj) d122_108 (hVr.1 0 (by decide)) (by omega) (by omega) (by omega) ((by rw [mset_i' (by omega), mset_i' (by omega), mset_i' (by omega)]; exact ejj)) ?_
      refine wz_iald (z := 60) (v := M 28 jj) d122_109 (hG.a (by decide) rfl rfl) (by omega) (by omega) (by decide) (by rw [mset_i' (by omega), mset_i' (by omega), mset_i' (by omega)]) ?_
      refine wp_aload_n d122_110 rfl ?_
      refine wp_getR (q := 51) d122_111 rfl (hG.o (by decide) rfl) (by decide) (hG.r (by decide +kernel)) (by decide) ?_
      refine wp_getR (q := Rf 51 1) d122_114 rfl (hG.o (by decide) rfl) (by decide) rfl (hVr.1 1 (by decide)).1 ?_
      refine wp_aload_n d122_117 rfl ?_
      refine wz_getI (v := i) d122_118 rfl (hG.o (by decide) rfl) (by decide) ((by rw [mset_i' (by omega), mset_i' (by omega), mset_i' (by omega)]; exact ei)) ?_
      refine wz_iald (z := zv) (v := M (Rf 51 1) i) d122_121 (hVr.1 1 (by decide)) (by omega) (by omega) (by omega) (by rw [mset_i' (by omega), mset_i' (by omega), mset_i' (by omega)]) ?_
      refine wp_virt (as := [.int (zI (M (Rf 51 1) i)), .int (zI (M 28 jj))]) (rest := []) d122_122 rfl rfl rfl (hG.o (by decide) rfl) rfl rfl (Nat.le_of_ble_eq_true rfl) ?_
      refine wc_deep (show d + 1 ≤ d + 4 by omega) ?_
      refine c_goTo hG ?_
      refine wp_goto (t := 206) d122_125 (by decide) ?_
      have vw : ∀ (p : Nat) (y : Int), LoP p → (90 ≤ p ∧ p ≤ 93 → 0 ≤ y ∧ y < vs) → (94 ≤ p ∧ p ≤ 97 → 0 ≤ y ∧ y < q) → p ≠ 43 → cvw (mset (mset (mset (mset (mset (mset M 43 9 ((q : Int) + 1 - 1)) 43 14 0) 43 15 ((st : Int) + 1)) 43 11 (M 28 jj)) 43 12 (M (Rf 51 1) i)) 43 13 (-1)) Rf p y = cvw M Rf p y := fun p y lo _ _ hn => by rw [cvw43 (Or.inl rfl) h lo, cvw43 (Or.inl rfl) h lo, cvw43 (Or.inl rfl) h lo, cvw43 (Or.inl rfl) h lo, cvw43 (Or.inl rfl) h lo, cvw43 (Or.inl rfl) h lo, if_neg (by omega), if_neg (by omega), if_neg (by omega), if_neg (by omega), if_neg (by omega), if_neg (by omega)]
      have l43' := l43
      obtain ⟨b', kp⟩ := bk.pop (V' := cvw (mset (mset (mset (mset (mset (mset M 43 9 ((q : Int) + 1 - 1)) 43 14 0) 43 15 ((st : Int) + 1)) 43 11 (M 28 jj)) 43 12 (M (Rf 51 1) i)) 43 13 (-1)) Rf) (st' := st + 1) (zf' := zf) (zv' := zv) (pc' := vN (nY t') + vpK k) hX0 vw (by rw [cvw43 (Or.inl rfl) h l43, cvw43 (Or.inl rfl) h l43, cvw43 (Or.inl rfl) h l43, cvw43 (Or.inl rfl) h l43, cvw43 (Or.inl rfl) h l43, cvw43 (Or.inl rfl) h l43, if_neg (by omega), if_neg (by omega), if_neg (by omega), if_neg (by omega), if_neg (by omega), if_pos ⟨rfl, rfl⟩]; omega) (by rw [cvw43 (Or.inl rfl) h l43, cvw43 (Or.inl rfl) h l43, cvw43 (Or.inl rfl) h l43, cvw43 (Or.inl rfl) h l43, cvw43 (Or.inl rfl) h l43, cvw43 (Or.inl rfl) h l43, if_neg (by omega), if_neg (by omega), if_neg (by omega), if_neg (by omega), if_neg (by omega), if_neg (by omega)]) (by rw [cvw43 (Or.inl rfl) h l43, cvw43 (Or.inl rfl) h l43, cvw43 (Or.inl rfl) h l43, cvw43 (Or.inl rfl) h l43, cvw43 (Or.inl rfl) h l43, cvw43 (Or.inl rfl) h l43, if_neg (by omega), if_neg (by omega), if_neg (by omega), if_neg (by omega), if_pos ⟨rfl, rfl⟩]) (by rw [cvw43 (Or.inl rfl) h l43, cvw43 (Or.inl rfl) h l43, cvw43 (Or.inl rfl) h l43, cvw43 (Or.inl rfl) h l43, cvw43 (Or.inl rfl) h l43, cvw43 (Or.inl rfl) h l43, if_neg (by omega), if_neg (by omega), if_neg (by omega), if_pos ⟨rfl, rfl⟩]; rfl) (by have := nb.2.2.1; omega) (by omega) (by omega) (Nat.le_refl _) (Nat.le_refl _)
      have nbk := nb.keep (V' := cvw (mset (mset (mset (mset (mset (mset M 43 9 ((q : Int) + 1 - 1)) 43 14 0) 43 15 ((st : Int) + 1)) 43 11 (M 28 jj)) 43 12 (M (Rf 51 1) i)) 43 13 (-1)) Rf) kp.1
      have ea := ec'.keep (V' := cvw (mset (mset (mset (mset (mset (mset M 43 9 ((q : Int) + 1 - 1)) 43 14 0) 43 15 ((st : Int) + 1)) 43 11 (M 28 jj)) 43 12 (M (Rf 51 1) i)) 43 13 (-1)) Rf) kp.1 kp.2.1 (fun _ _ x => x) (Nat.le_refl _)
      have mx : MX 23 M Rf K L n s zf zv zr (mset (mset (mset (mset (mset (mset M 43 9 ((q : Int) + 1 - 1)) 43 14 0) 43 15 ((st : Int) + 1)) 43 11 (M 28 jj)) 43 12 (M (Rf 51 1) i)) 43 13 (-1)) Rf K L n s zf zv := ((((((MX.refl h hM).set (Or.inl ⟨rfl, by omega, by omega⟩) ⟨by omega, by omega⟩).set (Or.inl ⟨rfl, by omega, by omega⟩) ⟨by omega, by omega⟩).set (Or.inl ⟨rfl, by omega, by omega⟩) ⟨by omega, by omega⟩).set (Or.inl ⟨rfl, by omega, by omega⟩) (hM _ _)).set (Or.inl ⟨rfl, by omega, by omega⟩) (hM _ _)).set (Or.inl ⟨rfl, by omega, by omega⟩) ⟨by omega, by omega⟩
      exact wp_ret d122_206 rfl (hq.1 true _ _ Rf K L n s zf zv em mx (by rw [mset_i' (by omega), mset_i' (by omega), mset_i' (by omega), mset_i' (by omega), mset_i' (by omega), mset_i' (by omega)]) ⟨vs, sc, q, H, b', by rw [cvw43 (Or.inl rfl) h l43, if_pos ⟨rfl, rfl⟩], ⟨F' - 1, by rw [cvw43 (Or.inl rfl) h l43, cvw43 (Or.inl rfl) h l43, cvw43 (Or.inl rfl) h l43, if_neg (by omega), if_neg (by omega), if_pos ⟨rfl, rfl⟩]; exact nbk, by have := nv'.2.2.2; show q + (F' - 1) ≤ 24 * (st + 1 + 1); omega⟩, by rw [cvw43 (Or.inl rfl) h l43, cvw43 (Or.inl rfl) h l43, if_neg (by omega), if_pos ⟨rfl, rfl⟩]; exact ea⟩)
    · skip
      refine wz_if_eq (t := 206) d122_86 (by decide) ⟨by omega, by omega⟩ (fun _ => ?_) (fun hb => absurd (by omega) hb)
      exact wp_ret d122_206 rfl (hq.2 _ _ em h60 ((((MX.refl h hM).set (Or.inl ⟨rfl, by omega, by omega⟩) ⟨by omega, by omega⟩).set (Or.inl ⟨rfl, by omega, by omega⟩) ⟨by omega, by omega⟩).set (Or.inl ⟨rfl, by omega, by omega⟩) ⟨by omega, by omega⟩) (mset_s _ _ _ _) (by rw [mset_i' (by omega), mset_i' (by omega), mset_i' (by omega), b5, h60]; rfl) (by rw [mset_i' (by omega), mset_i' (by omega), mset_i' (by omega)]))
theorem c_goOn11 (h : MR X Rf K L n zf zv zr) (hM : ∀ p i, R32 (M p i)) (c6 : cnt ≤ 60) (bk : BK (cvw M Rf) X cnt st vs sc (q + 1) zf zv H ((t, ρ, w, g) :: k) (vpF (t, ρ, w, g) + vpK k)) (hv : H (cvw M Rf 43 13) = some v) (hk : nKd t = 11) (hs : isR v (nMk t) = true) (hq : EnP Q X cnt M Rf K L n s zf zv zr st (.inr (v, (t, ρ, w, g) :: k))) : pm_Wc (d + 5) 122 [.ref 43, .int (zI (q : Int))] (zM M, Rf, K, L, n, s) Q := by
  have bkc := bk
  obtain ⟨⟨b1, b2, b3, b4, b5⟩, hh, ⟨b6, b7, b8, b9, b10⟩, fk⟩ := bkc
  obtain ⟨fm, fkb⟩ := fk.below
  obtain ⟨f2, ⟨F, nv, hF⟩, ec, f6, f7⟩ := fm
  have nv : NVc (cvw M Rf) X cnt F t (cvw M Rf 94 (q : Int)) := nv
  have ec : ECe (cvw M Rf) X cnt sc H ρ (cvw M Rf 95 (q : Int)) := ec
  have kd := nv.kd
  have hG := h.1
  have hX := h.2.2.2.2.2.2
  have hX0 := hX
  have r8 := h.2.2.2.2.2.1
  have hFr := h.2.1
  have hVr := h.2.2.1
  have fz := hFr.2.2.2.2.1
  have vz := hVr.2.2.2.2.1
  have vn := vN_is nv.sp
  have l43 : LoP 43 := by unfold LoP; omega
  have x1 : ∀ g : Nat, g ≤ 6 → ∀ y : Int, cvw M Rf (X + g) y = M (X + g) y := fun g hg y => cvw_o (by omega)
  have x43 : ∀ y : Int, cvw M Rf 43 y = M 43 y := fun y => cvw_o (by omega)
  rw [x43] at hv b2 b3 b4 b5
  have f0 : cvw M Rf 94 (q : Int) = M (Rf 43 0) (q : Int) := cvw_f (g := 0) (by omega)
  rw [f0] at nv kd
  generalize ej : M (Rf 43 0) (q : Int) = j at *
  generalize ei : M 43 13 = i at *
  have i0 := (hh _ _ hv).1
  obtain ⟨k1, k2, k3, k4, k5, k6, k7, k8, k9, k10⟩ := kd
  rw [x1 1 (by omega)] at k3
  have e9 : M 43 9 = (q : Int) + 1 := by rw [b3]; rfl
  obtain ⟨m, x, ev, hb⟩ := isR_is hs
  have hv' := hv
  rw [ev] at hv'
  obtain ⟨-, m8, jr, jk, jm, -, jp⟩ := hh.rec hv'
  have m3 := k8 hk
  have jp := jp (nMk t) m3 hb
  have k5 := k5 (by omega)
  rw [x1 3 (by omega)] at k5
  have g0 : cvw M Rf 90 i = M (Rf 51 0) i := cvw_v (g := 0) (by omega)
  have gp : cvw M Rf (91 + nMk t) i = M (Rf 51 (1 + nMk t)) i := by rw [show 91 + nMk t = 90 + (1 + nMk t) by omega]; exact cvw_v (by omega)
  rw [g0] at jr jk
  rw [gp] at jp
  rw [x1 1 (by omega)] at jk
  generalize ejj : M (Rf 51 0) i = jj at *
  have pi0 := (hh _ _ jp).1
  have em : mv (.inr (v, (t, ρ, w, g) :: k)) = some (true, .inr (rP v (nMk t), k)) := by rw [mvR_11c hk, if_pos hs]
  rw [← ev] at jp
  rcases hX with rfl | rfl
  · skip
    refine wc_in (ls0 := [some (.ref 43), some (.int (zI (q : Int))), none]) (by decide) (Nat.le_of_ble_eq_true rfl) rfl rfl ?_
    refine wp_aload_n d122_0 rfl ?_
    refine wp_getR (q := Rf 43 0) d122_1 rfl (hG.o (by decide) rfl) (by decide) rfl (hFr.1 0 (by decide)).1 ?_
    refine wp_iload_n d122_4 rfl ?_
    refine wz_iald (z := zf) (v := j) d122_5 (hFr.1 0 (by decide)) (by omega) (by omega) (by omega) (ej) ?_
    refine wp_istore_n d122_6 (Nat.le_of_ble_eq_true rfl) rfl ?_
    refine wp_aload_n d122_7 rfl ?_
    refine wp_getR (q := 16) d122_8 rfl (hG.o (by decide) rfl) (by decide) r8 (by decide) ?_
    refine wp_getR (q := 17) d122_11 rfl (hG.o (by decide) rfl) (by decide) (hG.r (by decide +kernel)) (by decide) ?_
    refine wp_iload_n d122_14 rfl ?_
    refine wz_iald (z := 60) (v := 6) d122_15 (hG.a (by decide) rfl rfl) (by omega) (by omega) (by decide) (by rw [k3, hk]; rfl) ?_
    refine wp_table (t := 128) d122_16 (by decide +kernel) ?_
    refine wp_aload_n d122_128 rfl ?_
    refine wp_dupr d122_129 ?_
    refine wz_getI (v := (q : Int) + 1) d122_130 rfl (hG.o (by decide) rfl) (by decide) (e9) ?_
    refine wz_iconst d122_133 ?_
    refine wz_isub d122_134 ?_
    refine wz_putI (i := 9) d122_135 rfl (hG.o (by decide) rfl) rfl (by decide) rfl ?_
    refine wp_aload_n d122_138 rfl ?_
    refine wp_aload_n d122_139 rfl ?_
    refine wz_getI (v := i) d122_140 rfl (hG.o (by decide) rfl) (by decide) (ei) ?_
    refine wz_iconst d122_143 ?_
    refine wp_virt (as := [.int (zI 5), .int (zI i)]) (rest := []) d122_144 rfl rfl rfl (hG.o (by decide) rfl) rfl rfl (Nat.le_of_ble_eq_true rfl) ?_
    have s0 := h.sep.1 0 (by omega)
    have s1 := h.sep.1 (1 + nMk t) (by omega)
    refine wc_deep (show d + 1 ≤ d + 4 by omega) ?_
    refine c_isOfKind (i := i) (j := jj) (kd := 5) (X := 16) h i0.1 (by omega) (by rw [mset_i' (by omega)]; exact ejj) jr.1 (by omega) (by rw [mset_i' (by omega)]; exact jk) ⟨by omega, by omega⟩ ?_
    refine wz_if_eq (t := 206) d122_147 (by decide) ⟨by omega, by omega⟩ (fun hb => absurd hb (by omega)) (fun _ => ?_)
    refine wp_aload_n d122_150 rfl ?_
    refine wp_virt (as := []) (rest := []) d122_151 rfl rfl rfl (hG.o (by decide) rfl) rfl rfl (Nat.le_of_ble_eq_true rfl) ?_
    refine wc_deep (show d + 1 ≤ d + 4 by omega) ?_
    refine c_countStep (st := st) hG (by rw [mset_i' (by omega), mset_i' (by omega)]; exact b5) b7 (fun h60 => ?_) (fun h60 => ?_)
    · skip
      refine wz_if_eq (t := 206) d122_154 (by decide) ⟨by omega, by omega⟩ (fun hb => absurd hb (by omega)) (fun _ => ?_)
      refine wp_aload_n d122_157 rfl ?_
      refine wp_aload_n d122_158 rfl ?_
      refine wp_getR (q := 51) d122_159 rfl (hG.o (by decide) rfl) (by decide) (hG.r (by decide +kernel)) (by decide) ?_
      refine wp_aload_n d122_162 rfl ?_
      refine wz_getI (v := i) d122_163 rfl (hG.o (by decide) rfl) (by decide) ((by rw [mset_i' (by omega), mset_i' (by omega), mset_i' (by omega)]; exact ei)) ?_
      refine wp_aload_n d122_166 rfl ?_
      refine wp_getR (q := 16) d122_167 rfl (hG.o (by decide) rfl) (by decide) r8 (by decide) ?_
      refine wp_getR (q := 19) d122_170 rfl (hG.o (by decide) rfl) (by decide) (hG.r (by decide +kernel)) (by decide) ?_
      refine wp_iload_n d122_173 rfl ?_
      refine wz_iald (z := 60) (v := (nMk t : Int)) d122_174 (hG.a (by decide) rfl rfl) (by omega) (by omega) (by decide) ((by rw [mset_i' (by omega), mset_i' (by omega), mset_i' (by omega)]; exact k5)) ?_
      refine wp_virt (as := [.int (zI (nMk t : Int)), .int (zI i)]) (rest := [.ref 43]) d122_175 rfl rfl rfl (hG.o (by decide) rfl) rfl rfl (Nat.le_of_ble_eq_true rfl) ?_
      refine wc_deep (show d + 1 ≤ d + 4 by omega) ?_
      refine c_vpart (X := 16) h m3 i0.1 (by omega) ?_
      rw [show (mset (mset (mset M 43 9 ((q : Int) + 1 - 1)) 43 14 0) 43 15 ((st : Int) + 1)) (Rf 51 (1 + nMk t)) i = M (Rf 51 (1 + nMk t)) i by rw [mset_i' (by omega), mset_i' (by omega), mset_i' (by omega)]]
      refine wz_putI (i := 13) d122_178 rfl (hG.o (by decide) rfl) rfl (by decide) rfl ?_
      refine wp_aload_n d122_181 rfl ?_
      refine wp_aload_n d122_182 rfl ?_
      refine wz_getI (v := M (Rf 51 (1 + nMk t)) i) d122_183 rfl (hG.o (by decide) rfl) (by decide) (mset_s _ _ _ _) ?_
      refine wz_iconst d122_186 ?_
      refine wz_icmp_ne (t := 194) d122_187 (by decide) ⟨by omega, by omega⟩ ⟨by omega, by omega⟩ (fun _ => ?_) (fun hb => absurd hb (by omega))
      refine wz_iconst d122_194 ?_
      refine wz_putI (i := 14) d122_195 rfl (hG.o (by decide) rfl) (by decide) (by decide) rfl ?_
      refine wp_goto (t := 206) d122_198 (by decide) ?_
      have vw : ∀ (p : Nat) (y : Int), LoP p → (90 ≤ p ∧ p ≤ 93 → 0 ≤ y ∧ y < vs) → (94 ≤ p ∧ p ≤ 97 → 0 ≤ y ∧ y < q) → p ≠ 43 → cvw (mset (mset (mset (mset (mset M 43 9 ((q : Int) + 1 - 1)) 43 14 0) 43 15 ((st : Int) + 1)) 43 13 (M (Rf 51 (1 + nMk t)) i)) 43 14 0) Rf p y = cvw M Rf p y := fun p y lo _ _ hn => by rw [cvw43 (Or.inl rfl) h lo, cvw43 (Or.inl rfl) h lo, cvw43 (Or.inl rfl) h lo, cvw43 (Or.inl rfl) h lo, cvw43 (Or.inl rfl) h lo, if_neg (by omega), if_neg (by omega), if_neg (by omega), if_neg (by omega), if_neg (by omega)]
      obtain ⟨b', kp⟩ := bk.pop (V' := cvw (mset (mset (mset (mset (mset M 43 9 ((q : Int) + 1 - 1)) 43 14 0) 43 15 ((st : Int) + 1)) 43 13 (M (Rf 51 (1 + nMk t)) i)) 43 14 0) Rf) (st' := st + 1) (zf' := zf) (zv' := zv) (pc' := vpK k) hX0 vw (by rw [cvw43 (Or.inl rfl) h l43, cvw43 (Or.inl rfl) h l43, cvw43 (Or.inl rfl) h l43, cvw43 (Or.inl rfl) h l43, cvw43 (Or.inl rfl) h l43, if_neg (by omega), if_neg (by omega), if_neg (by omega), if_neg (by omega), if_pos ⟨rfl, rfl⟩]; omega) (by rw [cvw43 (Or.inl rfl) h l43, cvw43 (Or.inl rfl) h l43, cvw43 (Or.inl rfl) h l43, cvw43 (Or.inl rfl) h l43, cvw43 (Or.inl rfl) h l43, if_neg (by omega), if_neg (by omega), if_neg (by omega), if_neg (by omega), if_neg (by omega)]) (by rw [cvw43 (Or.inl rfl) h l43, if_pos ⟨rfl, rfl⟩]) (by rw [cvw43 (Or.inl rfl) h l43, cvw43 (Or.inl rfl) h l43, cvw43 (Or.inl rfl) h l43, cvw43 (Or.inl rfl) h l43, cvw43 (Or.inl rfl) h l43, if_neg (by omega), if_neg (by omega), if_pos ⟨rfl, rfl⟩]; rfl) (by omega) (by omega) (by omega) (Nat.le_refl _) (Nat.le_refl _)
      have mx : MX 16 M Rf K L n s zf zv zr (mset (mset (mset (mset (mset M 43 9 ((q : Int) + 1 - 1)) 43 14 0) 43 15 ((st : Int) + 1)) 43 13 (M (Rf 51 (1 + nMk t)) i)) 43 14 0) Rf K L n s zf zv := (((((MX.refl h hM).set (Or.inl ⟨rfl, by omega, by omega⟩) ⟨by omega, by omega⟩).set (Or.inl ⟨rfl, by omega, by omega⟩) ⟨by omega, by omega⟩).set (Or.inl ⟨rfl, by omega, by omega⟩) ⟨by omega, by omega⟩).set (Or.inl ⟨rfl, by omega, by omega⟩) (hM _ _)).set (Or.inl ⟨rfl, by omega, by omega⟩) ⟨by omega, by omega⟩
      exact wp_ret d122_206 rfl (hq.1 true _ _ Rf K L n s zf zv em mx (by rw [mset_i' (by omega), mset_i' (by omega), mset_i' (by omega), mset_i' (by omega), mset_i' (by omega)]) ⟨vs, sc, q, H, b', by show H (cvw (mset (mset (mset (mset (mset M 43 9 ((q : Int) + 1 - 1)) 43 14 0) 43 15 ((st : Int) + 1)) 43 13 (M (Rf 51 (1 + nMk t)) i)) 43 14 0) Rf 43 13) = _; rw [cvw43 (Or.inl rfl) h l43, cvw43 (Or.inl rfl) h l43, if_neg (by omega), if_pos ⟨rfl, rfl⟩]; exact jp⟩)
    · skip
      refine wz_if_eq (t := 206) d122_154 (by decide) ⟨by omega, by omega⟩ (fun _ => ?_) (fun hb => absurd (by omega) hb)
      exact wp_ret d122_206 rfl (hq.2 _ _ em h60 ((((MX.refl h hM).set (Or.inl ⟨rfl, by omega, by omega⟩) ⟨by omega, by omega⟩).set (Or.inl ⟨rfl, by omega, by omega⟩) ⟨by omega, by omega⟩).set (Or.inl ⟨rfl, by omega, by omega⟩) ⟨by omega, by omega⟩) (mset_s _ _ _ _) (by rw [mset_i' (by omega), mset_i' (by omega), mset_i' (by omega), b5, h60]; rfl) (by rw [mset_i' (by omega), mset_i' (by omega), mset_i' (by omega)]))
  · skip
    refine wc_in (ls0 := [some (.ref 43), some (.int (zI (q : Int))), none]) (by decide) (Nat.le_of_ble_eq_true rfl) rfl rfl ?_
    refine wp_aload_n d122_0 rfl ?_
    refine wp_getR (q := Rf 43 0) d122_1 rfl (hG.o (by decide) rfl) (by decide) rfl (hFr.1 0 (by decide)).1 ?_
    refine wp_iload_n d122_4 rfl ?_
    refine wz_iald (z := zf) (v := j) d122_5 (hFr.1 0 (by decide)) (by omega) (by omega) (by omega) (ej) ?_
    refine wp_istore_n d122_6 (Nat.le_of_ble_eq_true rfl) rfl ?_
    refine wp_aload_n d122_7 rfl ?_
    refine wp_getR (q := 23) d122_8 rfl (hG.o (by decide) rfl) (by decide) r8 (by decide) ?_
    refine wp_getR (q := 24) d122_11 rfl (hG.o (by decide) rfl) (by decide) (hG.r (by decide +kernel)) (by decide) ?_
    refine wp_iload_n d122_14 rfl ?_
    refine wz_iald (z := 60) (v := 6) d122_15 (hG.a (by decide) rfl rfl) (by omega) (by omega) (by decide) (by rw [k3, hk]; rfl) ?_
    refine wp_table (t := 128) d122_16 (by decide +kernel) ?_
    refine wp_aload_n d122_128 rfl ?_
    refine wp_dupr d122_129 ?_
    refine wz_getI (v := (q : Int) + 1) d122_130 rfl (hG.o (by decide) rfl) (by decide) (e9) ?_
    refine wz_iconst d122_133 ?_
    refine wz_isub d122_134 ?_
    refine wz_putI (i := 9) d122_135 rfl (hG.o (by decide) rfl) rfl (by decide) rfl ?_
    refine wp_aload_n d122_138 rfl ?_
    refine wp_aload_n d122_139 rfl ?_
    refine wz_getI (v := i) d122_140 rfl (hG.o (by decide) rfl) (by decide) (ei) ?_
    refine wz_iconst d122_143 ?_
    refine wp_virt (as := [.int (zI 5), .int (zI i)]) (rest := []) d122_144 rfl rfl rfl (hG.o (by decide) rfl) rfl rfl (Nat.le_of_ble_eq_true rfl) ?_
    have s0 := h.sep.1 0 (by omega)
    have s1 := h.sep.1 (1 + nMk t) (by omega)
    refine wc_deep (show d + 1 ≤ d + 4 by omega) ?_
    refine c_isOfKind (i := i) (j := jj) (kd := 5) (X := 23) h i0.1 (by omega) (by rw [mset_i' (by omega)]; exact ejj) jr.1 (by omega) (by rw [mset_i' (by omega)]; exact jk) ⟨by omega, by omega⟩ ?_
    refine wz_if_eq (t := 206) d122_147 (by decide) ⟨by omega, by omega⟩ (fun hb => absurd hb (by omega)) (fun _ => ?_)
    refine wp_aload_n d122_150 rfl ?_
    refine wp_virt (as := []) (rest := []) d122_151 rfl rfl rfl (hG.o (by decide) rfl) rfl rfl (Nat.le_of_ble_eq_true rfl) ?_
    refine wc_deep (show d + 1 ≤ d + 4 by omega) ?_
    refine c_countStep (st := st) hG (by rw [mset_i' (by omega), mset_i' (by omega)]; exact b5) b7 (fun h60 => ?_) (fun h60 => ?_)
    · skip
      refine wz_if_eq (t := 206) d122_154 (by decide) ⟨by omega, by omega⟩ (fun hb => absurd hb (by omega)) (fun _ => ?_)
      refine wp_aload_n d122_157 rfl ?_
      refine wp_aload_n d122_158 rfl ?_
      refine wp_getR (q := 51) d122_159 rfl (hG.o (by decide) rfl) (by decide) (hG.r (by decide +kernel)) (by decide) ?_
      refine wp_aload_n d122_162 rfl ?_
      refine wz_getI (v := i) d122_163 rfl (hG.o (by decide) rfl) (by decide) ((by rw [mset_i' (by omega), mset_i' (by omega), mset_i' (by omega)]; exact ei)) ?_
      refine wp_aload_n d122_166 rfl ?_
      refine wp_getR (q := 23) d122_167 rfl (hG.o (by decide) rfl) (by decide) r8 (by decide) ?_
      refine wp_getR (q := 26) d122_170 rfl (hG.o (by decide) rfl) (by decide) (hG.r (by decide +kernel)) (by decide) ?_
      refine wp_iload_n d122_173 rfl ?_
      refine wz_iald (z := 60) (v := (nMk t : Int)) d122_174 (hG.a (by decide) rfl rfl) (by omega) (by omega) (by decide) ((by rw [mset_i' (by omega), mset_i' (by omega), mset_i' (by omega)]; exact k5)) ?_
      refine wp_virt (as := [.int (zI (nMk t : Int)), .int (zI i)]) (rest := [.ref 43]) d122_175 rfl rfl rfl (hG.o (by decide) rfl) rfl rfl (Nat.le_of_ble_eq_true rfl) ?_
      refine wc_deep (show d + 1 ≤ d + 4 by omega) ?_
      refine c_vpart (X := 23) h m3 i0.1 (by omega) ?_
      rw [show (mset (mset (mset M 43 9 ((q : Int) + 1 - 1)) 43 14 0) 43 15 ((st : Int) + 1)) (Rf 51 (1 + nMk t)) i = M (Rf 51 (1 + nMk t)) i by rw [mset_i' (by omega), mset_i' (by omega), mset_i' (by omega)]]
      refine wz_putI (i := 13) d122_178 rfl (hG.o (by decide) rfl) rfl (by decide) rfl ?_
      refine wp_aload_n d122_181 rfl ?_
      refine wp_aload_n d122_182 rfl ?_
      refine wz_getI (v := M (Rf 51 (1 + nMk t)) i) d122_183 rfl (hG.o (by decide) rfl) (by decide) (mset_s _ _ _ _) ?_
      refine wz_iconst d122_186 ?_
      refine wz_icmp_ne (t := 194) d122_187 (by decide) ⟨by omega, by omega⟩ ⟨by omega, by omega⟩ (fun _ => ?_) (fun hb => absurd hb (by omega))
      refine wz_iconst d122_194 ?_
      refine wz_putI (i := 14) d122_195 rfl (hG.o (by decide) rfl) (by decide) (by decide) rfl ?_
      refine wp_goto (t := 206) d122_198 (by decide) ?_
      have vw : ∀ (p : Nat) (y : Int), LoP p → (90 ≤ p ∧ p ≤ 93 → 0 ≤ y ∧ y < vs) → (94 ≤ p ∧ p ≤ 97 → 0 ≤ y ∧ y < q) → p ≠ 43 → cvw (mset (mset (mset (mset (mset M 43 9 ((q : Int) + 1 - 1)) 43 14 0) 43 15 ((st : Int) + 1)) 43 13 (M (Rf 51 (1 + nMk t)) i)) 43 14 0) Rf p y = cvw M Rf p y := fun p y lo _ _ hn => by rw [cvw43 (Or.inl rfl) h lo, cvw43 (Or.inl rfl) h lo, cvw43 (Or.inl rfl) h lo, cvw43 (Or.inl rfl) h lo, cvw43 (Or.inl rfl) h lo, if_neg (by omega), if_neg (by omega), if_neg (by omega), if_neg (by omega), if_neg (by omega)]
      obtain ⟨b', kp⟩ := bk.pop (V' := cvw (mset (mset (mset (mset (mset M 43 9 ((q : Int) + 1 - 1)) 43 14 0) 43 15 ((st : Int) + 1)) 43 13 (M (Rf 51 (1 + nMk t)) i)) 43 14 0) Rf) (st' := st + 1) (zf' := zf) (zv' := zv) (pc' := vpK k) hX0 vw (by rw [cvw43 (Or.inl rfl) h l43, cvw43 (Or.inl rfl) h l43, cvw43 (Or.inl rfl) h l43, cvw43 (Or.inl rfl) h l43, cvw43 (Or.inl rfl) h l43, if_neg (by omega), if_neg (by omega), if_neg (by omega), if_neg (by omega), if_pos ⟨rfl, rfl⟩]; omega) (by rw [cvw43 (Or.inl rfl) h l43, cvw43 (Or.inl rfl) h l43, cvw43 (Or.inl rfl) h l43, cvw43 (Or.inl rfl) h l43, cvw43 (Or.inl rfl) h l43, if_neg (by omega), if_neg (by omega), if_neg (by omega), if_neg (by omega), if_neg (by omega)]) (by rw [cvw43 (Or.inl rfl) h l43, if_pos ⟨rfl, rfl⟩]) (by rw [cvw43 (Or.inl rfl) h l43, cvw43 (Or.inl rfl) h l43, cvw43 (Or.inl rfl) h l43, cvw43 (Or.inl rfl) h l43, cvw43 (Or.inl rfl) h l43, if_neg (by omega), if_neg (by omega), if_pos ⟨rfl, rfl⟩]; rfl) (by omega) (by omega) (by omega) (Nat.le_refl _) (Nat.le_refl _)
      have mx : MX 23 M Rf K L n s zf zv zr (mset (mset (mset (mset (mset M 43 9 ((q : Int) + 1 - 1)) 43 14 0) 43 15 ((st : Int) + 1)) 43 13 (M (Rf 51 (1 + nMk t)) i)) 43 14 0) Rf K L n s zf zv := (((((MX.refl h hM).set (Or.inl ⟨rfl, by omega, by omega⟩) ⟨by omega, by omega⟩).set (Or.inl ⟨rfl, by omega, by omega⟩) ⟨by omega, by omega⟩).set (Or.inl ⟨rfl, by omega, by omega⟩) ⟨by omega, by omega⟩).set (Or.inl ⟨rfl, by omega, by omega⟩) (hM _ _)).set (Or.inl ⟨rfl, by omega, by omega⟩) ⟨by omega, by omega⟩
      exact wp_ret d122_206 rfl (hq.1 true _ _ Rf K L n s zf zv em mx (by rw [mset_i' (by omega), mset_i' (by omega), mset_i' (by omega), mset_i' (by omega), mset_i' (by omega)]) ⟨vs, sc, q, H, b', by show H (cvw (mset (mset (mset (mset (mset M 43 9 ((q : Int) + 1 - 1)) 43 14 0) 43 15 ((st : Int) + 1)) 43 13 (M (Rf 51 (1 + nMk t)) i)) 43 14 0) Rf 43 13) = _; rw [cvw43 (Or.inl rfl) h l43, cvw43 (Or.inl rfl) h l43, if_neg (by omega), if_pos ⟨rfl, rfl⟩]; exact jp⟩)
    · skip
      refine wz_if_eq (t := 206) d122_154 (by decide) ⟨by omega, by omega⟩ (fun _ => ?_) (fun hb => absurd (by omega) hb)
      exact wp_ret d122_206 rfl (hq.2 _ _ em h60 ((((MX.refl h hM).set (Or.inl ⟨rfl, by omega, by omega⟩) ⟨by omega, by omega⟩).set (Or.inl ⟨rfl, by omega, by omega⟩) ⟨by omega, by omega⟩).set (Or.inl ⟨rfl, by omega, by omega⟩) ⟨by omega, by omega⟩) (mset_s _ _ _ _) (by rw [mset_i' (by omega), mset_i' (by omega), mset_i' (by omega), b5, h60]; rfl) (by rw [mset_i' (by omega), mset_i' (by omega), mset_i' (by omega)]))
end PmH10c
