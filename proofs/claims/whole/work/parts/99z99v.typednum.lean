/-! SHORT TERMS WITH TYPED ARGUMENTS: numbers. -/
theorem tw_up : ∀ (f D : Nat) (sc : List Nat) (t : Ty), TWf f D sc t → TWf (f + 1) D sc t
  | 0, _, _, _, w => w.elim
  | f + 1, D, sc, t, ⟨w0, w5, w6, w7, w8, w9, w10, w11, w12⟩ => ⟨w0, w5, fun c => ⟨(w6 c).1, (w6 c).2.1, (w6 c).2.2.1, tw_up f _ _ _ (w6 c).2.2.2⟩, fun c => ⟨tw_up f _ _ _ (w7 c).1, tw_up f _ _ _ (w7 c).2⟩, fun c => ⟨(w8 c).1, (w8 c).2.1, tw_up f _ _ _ (w8 c).2.2⟩, fun c => ⟨tw_up f _ _ _ (w9 c).1, (w9 c).2⟩, fun c => ⟨(w10 c).1, fun g hg hb => tw_up f _ _ _ ((w10 c).2 g hg hb)⟩, fun c => ⟨(w11 c).1, tw_up f _ _ _ (w11 c).2⟩, w12⟩
theorem ty_up : ∀ (f : Nat) (t : Ty) (Γ : List Ty) (Δ : List (Nat × Ty × Nat)) (D : Nat) (sc : List Nat), TWf f D sc t → tyF (f + 1) t Γ Δ = tyF f t Γ Δ
  | 0, _, _, _, _, _, w => w.elim
  | f + 1, t, Γ, Δ, D, sc, ⟨w0, w5, w6, w7, w8, w9, w10, w11, w12⟩ => by
    have ih := ty_up f
    unfold tyF
    by_cases c5 : nKd t = 5
    · rw [if_pos c5, if_pos c5]
    rw [if_neg c5, if_neg c5]
    by_cases c6 : nKd t = 6
    · rw [if_pos c6, if_pos c6, ih _ _ _ _ _ (w6 c6).2.2.2]
    rw [if_neg c6, if_neg c6]
    by_cases c7 : nKd t = 7
    · rw [if_pos c7, if_pos c7, ih _ _ _ _ _ (w7 (Or.inl c7)).1, ih _ _ _ _ _ (w7 (Or.inl c7)).2]
    rw [if_neg c7, if_neg c7]
    by_cases c8 : nKd t = 8
    · rw [if_pos c8, if_pos c8, ih _ _ _ _ _ (w8 c8).2.2]
    rw [if_neg c8, if_neg c8]
    by_cases c9 : nKd t = 9
    · rw [if_pos c9, if_pos c9, ih _ _ _ _ _ (w9 c9).1]
    rw [if_neg c9, if_neg c9]
    by_cases c10 : nKd t = 10
    · rw [if_pos c10, if_pos c10]
      have key : ∀ (g : Nat) (u : Ty), nP t g = u → g < 3 → (if bit (nMk t) g = true then tyF (f + 1) u Γ Δ else .inr .nil) = (if bit (nMk t) g = true then tyF f u Γ Δ else .inr .nil) := by
        intro g u e hg
        by_cases b : bit (nMk t) g = true
        · rw [if_pos b, if_pos b]
          have q := (w10 c10).2 g hg b
          rw [e] at q
          exact ih _ _ _ _ _ q
        · rw [if_neg b, if_neg b]
      rw [key 0 (nX t) rfl (by decide), key 1 (nY t) rfl (by decide), key 2 (nZ t) rfl (by decide)]
    rw [if_neg c10, if_neg c10]
    by_cases c11 : nKd t = 11
    · rw [if_pos c11, if_pos c11, ih _ _ _ _ _ (w11 c11).2]
    have c12 : nKd t = 12 := by omega
    rw [if_neg c11, if_neg c11, ih _ _ _ _ _ (w7 (Or.inr c12)).1, ih _ _ _ _ _ (w7 (Or.inr c12)).2]
theorem mch_pos' {f D : Nat} {sc : List Nat} {t : Ty} (w : TWf f D sc t) : 1 ≤ mch t := mch_pos (tw_up _ _ _ _ w)
theorem nop_of {f D : Nat} {sc : List Nat} {t : Ty} (w : TWf (f + 1) D sc t) (m5 : mch t ≤ 5) (k7 : nKd t ≠ 7) (k9 : nKd t ≠ 9) (k11 : nKd t ≠ 11) : NOp (f + 1) t := by
  have sub : ∀ u, TWf f D sc u → mch u ≤ 2 → NOp f u := by
    intro u wu mu
    obtain ⟨a, b, c, q, -, -, q2⟩ := chr_min _ _ _ _ wu
    exact q2.resolve_right (by omega)
  obtain ⟨w0, w5, w6, w7, w8, w9, w10, w11, w12⟩ := w
  have em := mch_is w0.2.1
  refine ⟨fun c => ?_, ⟨k7, k9, k11⟩, fun c => ?_, fun c => ?_⟩
  · exfalso
    rw [if_neg (by omega), if_pos c] at em
    rcases c with c | c
    · obtain ⟨-, x1, x2, x3⟩ := w6 c
      have := tch_pos x1
      have := mch_pos' x3
      omega
    · obtain ⟨x1, x2, x3⟩ := w8 c
      have := tch_pos x1
      have := mch_pos' x3
      omega
  · intro g hg hb
    rw [if_neg (by omega), if_neg (by omega), if_neg (by omega), if_pos c] at em
    have hm : ¬ nMk t = 0 := by
      intro e
      rw [e] at hb
      rcases (show g = 0 ∨ g = 1 ∨ g = 2 by omega) with rfl | rfl | rfl <;> exact absurd hb (by decide)
    rw [if_neg hm] at em
    have m8 := (w10 c).1
    have h3 : ∀ m, m < 8 → m ≠ 0 → 1 ≤ nlb m := by decide
    have := h3 _ m8 hm
    refine sub _ ((w10 c).2 g hg hb) ?_
    rcases (show g = 0 ∨ g = 1 ∨ g = 2 by omega) with rfl | rfl | rfl
    · show mch (nX t) ≤ 2
      omega
    · show mch (nY t) ≤ 2
      omega
    · show mch (nZ t) ≤ 2
      omega
  · obtain ⟨x1, x2⟩ := w7 (Or.inr c)
    rw [if_neg (by omega), if_neg (by omega), if_neg (by omega), if_neg (by omega)] at em
    have p1 := mch_pos' x1
    have p2 := mch_pos' x2
    exact ⟨sub _ x1 (by omega), sub _ x2 (by omega)⟩
def t3x (hv s2 n8 y1 wB : Nat) (v : Nat × Nat) (p : Nat) : Nat := max (max y1 (hv + (s2 + (v.2 + (v.1 - p) * y1 + p * wB)))) n8
def t3c (XR F : FrT) (hv s2 n8 y1 wB k n Bd : Nat) : Bool := (frg XR k).all (fun v => (List.range (v.1 + 1)).all (fun p => Nat.ble (v.2 + (v.1 - p) * y1 + p * max (max y1 n8) wB) Bd && Nat.ble (Zx F (t3x hv s2 n8 y1 wB v p) (n + 2)) Bd))
def t3d (XR : FrT) (hv s2 n8 y1 wB k Bd : Nat) : Bool := (frg XR k).all (fun v => (List.range (v.1 + 1)).all (fun p => (List.range (k - 4)).all (fun j => (frg XR j).all (fun u => Nat.ble (u.2 + u.1 * t3x hv s2 n8 y1 wB v p) Bd))))
section PmTc
variable {t0 fn s2 hv r0 r1 r2 r3 : Nat} {n1 h : Nat → Nat} {P Q : List (List Nat)} {F G XR XG : FrT} {X : List Nat} {B C : Ty} {Γ0 : List Ty} {Δ : List (Nat × Ty × Nat)} {f : Nat}
theorem t3_v (T : TBs 58 t0 fn s2 hv r0 r1 r2 r3 1 n1 h P Q F G X) (hm : ∀ y y', y ≤ y' → h y ≤ h y') (H1 : ∀ y, h y ≤ hv + max 1 y) (s21 : 1 ≤ s2) (hFm : frm F = true) (hX : xrc XR XG t0 fn s2 hv r0 r1 r2 r3 = true) (hf1 : n1 1 ≤ fn) (hr : ∀ m, m < 8 → n1 (8 + m) ≤ (if nlb m = 0 then r0 else if nlb m = 1 then r1 else if nlb m = 2 then r2 else r3)) (t1 : t0 ≤ 1) (he : TE (tAll B C :: Γ0) Δ) (hv' : noac (tAll B C :: Γ0)) (h0 : hd B ≠ 0) (h16 : hd B < 16) {t S : Ty} (w : TWf (f + 4) (Γ0.length + 1) (Δ.map (fun a => a.1)) t) (c9 : nKd t = 9) (m5 : mch t ≤ 5) {n n8 wB Bd : Nat} (hn : ∀ j, j < Γ0.length → tch (bnd Γ0 j) ≤ n) (hd' : dch Δ ≤ n + 4) (n1' : 1 ≤ n) (n54 : n ≤ 54) (k40 : tch C ≤ 40) (q56 : cch Γ0 ≤ 56) (h8 : n1 8 ≤ n8) (hwB : h (nz t0 n1 s2 h (onz t0 n1 s2 h Γ0) B) ≤ wB) (hω : ∀ j, j < Γ0.length → vw (onz t0 n1 s2 h Γ0) j ≤ max 1 (X.getD (cch Γ0) 0)) (zc : t3c XR F hv s2 n8 (max 1 (X.getD (cch Γ0) 0)) wB (tch C) n Bd = true) (zd : hd C ≠ 2 ∨ mch t ≤ 4 ∨ Γ0 = [] ∨ t3d XR hv s2 n8 (max 1 (X.getD (cch Γ0) 0)) wB (tch C) Bd = true) (hS : tyF (f + 4) t (tAll B C :: Γ0) Δ = .inr S) : nz t0 n1 s2 h (onz t0 n1 s2 h (tAll B C :: Γ0)) S ≤ Bd := by
  have oA : ok Γ0.length (tAll B C) = true := he.1.1
  have oC := (ok_all.mp oA).2
  have lo0 := onz_len t0 n1 s2 h Γ0
  obtain ⟨v, hv9, f1, f2⟩ := xr_form (t0 := t0) (n1 := n1) (s2 := s2) (hv := hv) hX hf1 hr _ C (Γ0.length + 1) (Nat.le_refl _) oC k40
  obtain ⟨p, hp, e, he9, g1, g2, g3⟩ := nat_ctxg (Δ1 := []) (W := [[(1, 0)]]) (q2 := 0) T H1 s21 (wB := wB) (v := v) he.1 f1 f2 hwB (Nat.le_refl _) q56 (fun y hy hw => ⟨(1, 0), by show (1, 0) ∈ [(1, 0)]; exact List.mem_singleton.mpr rfl, Nat.le_refl _, fun j hj => by have q : vw (onz t0 n1 s2 h (cxs [] Γ0 (tAll B C))) j ≤ y := hw j hj; show vw (onz t0 n1 s2 h (cxs [] Γ0 (tAll B C))) j ≤ 0 + 1 * y; omega⟩)
  have ee : e = (1, 0) := List.mem_singleton.mp he9
  subst ee
  have q := rng_all (List.all_eq_true.mp zc v hv9) (i := p) (by omega)
  rw [Bool.and_eq_true] at q
  have z1 := Nat.le_of_ble_eq_true q.1
  have z2 := Nat.le_of_ble_eq_true q.2
  have e8 : nz t0 n1 s2 h (onz t0 n1 s2 h (tAll B C :: Γ0)) tR0 = n1 8 := by
    unfold tR0
    rw [nz_rec, nz_nil]
    rfl
  have hmz : ∀ z b, ok (Γ0.length + 1) b = true → nz t0 n1 s2 h (z :: onz t0 n1 s2 h Γ0) b ≤ nz t0 n1 s2 h (hzx h z (nz t0 n1 s2 h (onz t0 n1 s2 h Γ0) B) :: onz t0 n1 s2 h Γ0) b := by
    intro z b ob
    refine nz_mono (t0 := t0) (n1 := n1) (s2 := s2) hm _ b _ _ (Nat.le_refl _) rfl (by rw [List.length_cons, lo0]; exact ob) (fun j hj => ?_)
    rw [vw_cons, vw_cons]
    by_cases e : j = (onz t0 n1 s2 h Γ0).length
    · rw [if_pos e, if_pos e]; exact Nat.le_max_left _ _
    · rw [if_neg e, if_neg e]; exact Nat.le_refl _
  have X1 : max 1 (X.getD (cch Γ0) 0) ≤ t3x hv s2 n8 (max 1 (X.getD (cch Γ0) 0)) wB v p := Nat.le_trans (Nat.le_max_left _ _) (Nat.le_max_left _ _)
  have X2 : n8 ≤ t3x hv s2 n8 (max 1 (X.getD (cch Γ0) 0)) wB v p := Nat.le_max_right _ _
  have X3 : max (max 1 (X.getD (cch Γ0) 0)) (hv + (s2 + (v.2 + (v.1 - p) * max 1 (X.getD (cch Γ0) 0) + p * wB))) ≤ t3x hv s2 n8 (max 1 (X.getD (cch Γ0) 0)) wB v p := Nat.le_max_left _ _
  refine val_9 (x := t3x hv s2 n8 (max 1 (X.getD (cch Γ0) 0)) wB v p) (zs := max (max 1 (X.getD (cch Γ0) 0)) n8) T hFm he hv' h0 h16 w c9 m5 hn hd' n1' n54 (by omega) (by omega) (fun j hj => ?_) (fun j hj => Nat.le_trans (hω j hj) (Nat.le_max_left _ _)) (by rw [e8]; exact Nat.le_trans h8 (Nat.le_max_right _ _)) (Nat.max_le.mpr ⟨X1, X2⟩) (fun z hz => ?_) (fun a2 b2 eC hm5 l0 z' z hz' hz => ?_) z2 hS
  · have r := g2 j hj
    have r : vw (onz t0 n1 s2 h (tAll B C :: Γ0)) j ≤ 0 + 1 * max (max 1 (X.getD (cch Γ0) 0)) (hv + (s2 + (v.2 + (v.1 - p) * max 1 (X.getD (cch Γ0) 0) + p * wB))) := r
    omega
  · have r1 := hmz z C oC
    have r2 := g3 z
    have r3 := Nat.mul_le_mul_left p (show max z wB ≤ max (max (max 1 (X.getD (cch Γ0) 0)) n8) wB by omega)
    omega
  · subst eC
    rcases zd with zd | zd | zd | zd
    · exact absurd (hd_all _ _) zd
    · omega
    · rw [zd] at l0
      exact absurd l0 (Nat.lt_irrefl 0)
    have ob2 := (ok_all.mp oC).2
    have pa := tch_pos (ok_all.mp oC).1
    have et := tch_all a2 b2
    obtain ⟨u, hu, u1, u2⟩ := xr_form (t0 := t0) (n1 := n1) (s2 := s2) (hv := hv) hX hf1 hr _ b2 (Γ0.length + 1 + 1) (Nat.le_refl _) ob2 (by omega)
    have q9 := List.all_eq_true.mp (rng_all (rng_all (List.all_eq_true.mp zd v hv9) (i := p) (by omega)) (i := tch b2) (by omega)) u hu
    have z9 := Nat.le_of_ble_eq_true q9
    have ll : (z :: z' :: onz t0 n1 s2 h Γ0).length = Γ0.length + 1 + 1 := by rw [List.length_cons, List.length_cons, lo0]
    have r := nz_xt (t0 := t0) (n1 := n1) (s2 := s2) (h := h) (hv := hv) H1 (t := b2) (ω := z :: z' :: onz t0 n1 s2 h Γ0) (x := t3x hv s2 n8 (max 1 (X.getD (cch Γ0) 0)) wB v p) (by rw [ll]; exact ob2) (fun j hj => by
      rw [ll] at hj
      rw [vw_cons, List.length_cons, lo0]
      by_cases e1 : j = Γ0.length + 1
      · rw [if_pos e1]; exact hz
      · rw [if_neg e1, vw_cons, lo0]
        by_cases e2 : j = Γ0.length
        · rw [if_pos e2]
          exact Nat.le_trans hz' (Nat.max_le.mpr ⟨X1, X2⟩)
        · rw [if_neg e2]
          exact Nat.le_trans (hω j (by omega)) X1)
    rw [ll] at r
    have r3 := Nat.mul_le_mul_right (t3x hv s2 n8 (max 1 (X.getD (cch Γ0) 0)) wB v p) u1
    omega
end PmTc
def t9z (be k q1 c : Nat) : Bool := t3c xr1 fr1 1 3 2 (max 1 (fx1.getD q1 0)) (wbz fr1 1 (max 1 (fx1.getD q1 0)) be) k (max (q1 - 4) (max 1 (48 - c))) 887 && t3c xrq frq 0 1 1 (max 1 (fxq.getD q1 0)) (wbz frq 0 (max 1 (fxq.getD q1 0)) be) k (max (q1 - 4) (max 1 (48 - c))) 597
def t9d (be k q1 : Nat) : Bool := t3d xr1 1 3 2 (max 1 (fx1.getD q1 0)) (wbz fr1 1 (max 1 (fx1.getD q1 0)) be) k 887 && t3d xrq 0 1 1 (max 1 (fxq.getD q1 0)) (wbz frq 0 (max 1 (fxq.getD q1 0)) be) k 597
theorem nat_t3 {f : Nat} {t B C : Ty} {Γ0 : List Ty} {Δ : List (Nat × Ty × Nat)} (w : TWf f (tAll B C :: Γ0).length (Δ.map (fun a => a.1)) t) (he : TE (tAll B C :: Γ0) Δ) (hv' : noac (tAll B C :: Γ0)) (h0 : hd B ≠ 0) (h16 : hd B < 16) (b2 : 2 ≤ tch B) (k40 : tch C ≤ 40) (m3 : 3 ≤ mch t) (m5 : mch t ≤ 5) (k7 : nKd t ≠ 7) (k11 : nKd t ≠ 11) (h47 : cch (tAll B C :: Γ0) ≤ 47) (hb : cch (tAll B C :: Γ0) + dch Δ + 2 * mch t ≤ 58) (zc : t9z (tch B) (tch C) (cch Γ0) (cch (tAll B C :: Γ0)) = true) (zd : hd C ≠ 2 ∨ mch t ≤ 4 ∨ Γ0 = [] ∨ t9d (tch B) (tch C) (cch Γ0) = true) : NtV (tAll B C :: Γ0) Δ f t 887 597 := by
  by_cases k9 : nKd t = 9
  rotate_left
  · cases f with
    | zero => exact w.elim
    | succ f => exact ntv_nop w he (nop_of w m5 k7 k9 k11) hb
  have w4 : TWf (f + 4) (Γ0.length + 1) (Δ.map (fun a => a.1)) t := tw_up _ _ _ _ (tw_up _ _ _ _ (tw_up _ _ _ _ (tw_up _ _ _ _ w)))
  intro S hS
  have hS4 : tyF (f + 4) t (tAll B C :: Γ0) Δ = .inr S := by
    rw [ty_up _ _ _ _ _ _ (tw_up _ _ _ _ (tw_up _ _ _ _ (tw_up _ _ _ _ w))), ty_up _ _ _ _ _ _ (tw_up _ _ _ _ (tw_up _ _ _ _ w)), ty_up _ _ _ _ _ _ (tw_up _ _ _ _ w), ty_up _ _ _ _ _ _ w]
    exact hS
  have oc0 : okc Γ0 := he.1.2
  have oA : ok Γ0.length (tAll B C) = true := he.1.1
  have oBB := (ok_all.mp oA).1
  have ec : cch (tAll B C :: Γ0) = (tch (tAll B C) + 4) + cch Γ0 := rfl
  have eσ := tch_all B C
  have hn : ∀ j, j < Γ0.length → tch (bnd Γ0 j) ≤ max (cch Γ0 - 4) (max 1 (48 - cch (tAll B C :: Γ0))) := fun j hj => by
    have := mem_cch (bnd_mem Γ0 j hj)
    omega
  unfold t9z at zc
  rw [Bool.and_eq_true] at zc
  refine ⟨fun d => ?_, ?_⟩
  · have T := tbs1 d
    have l0 := onz_len 0 (fun _ => 1 + 1) (2 + 1) (vlr d 1) Γ0
    have hω : ∀ j, j < Γ0.length → vw (onz 0 (fun _ => 1 + 1) (2 + 1) (vlr d 1) Γ0) j ≤ max 1 (fx1.getD (cch Γ0) 0) := fun j hj => Nat.le_trans (onz_chars (n1 := fun _ => 1 + 1) T.1 T.2.1 T.2.2.1 T.2.2.2.1 T.2.2.2.2.1 Γ0 oc0 (by omega) j hj) (Nat.le_max_right _ _)
    have hwB : vlr d 1 (nz 0 (fun _ => 1 + 1) (2 + 1) (vlr d 1) (onz 0 (fun _ => 1 + 1) (2 + 1) (vlr d 1) Γ0) B) ≤ wbz fr1 1 (max 1 (fx1.getD (cch Γ0) 0)) (tch B) := by
      have q2 := vlr_one d (nz 0 (fun _ => 1 + 1) (2 + 1) (vlr d 1) (onz 0 (fun _ => 1 + 1) (2 + 1) (vlr d 1) Γ0) B)
      unfold wbz
      rw [if_neg (by intro q'; have := Nat.eq_of_beq_eq_true q'; omega)]
      have q3 : nz 0 (fun _ => 1 + 1) (2 + 1) (vlr d 1) (onz 0 (fun _ => 1 + 1) (2 + 1) (vlr d 1) Γ0) B ≤ Zx fr1 (max 1 (fx1.getD (cch Γ0) 0)) (tch B + 2) := Zx_le T (by rw [l0]; exact oBB) (by omega) (Nat.le_max_left _ _) (fun j hj => hω j (by rw [l0] at hj; exact hj))
      generalize nz 0 (fun _ => 1 + 1) (2 + 1) (vlr d 1) (onz 0 (fun _ => 1 + 1) (2 + 1) (vlr d 1) Γ0) B = n9 at *
      generalize Zx fr1 (max 1 (fx1.getD (cch Γ0) 0)) (tch B + 2) = z9 at *
      omega
    exact t3_v (hv := 1) T (vlr_mono d 1) (vlr_one d) (by decide) fr1_m xr1_ok T.2.2.2.1 T.2.2.2.2.1 (by decide) he hv' h0 h16 w4 k9 m5 hn (by omega) (by omega) (by omega) k40 (by omega) (n8 := 2) (Nat.le_refl _) hwB hω zc.1 (zd.imp id (Or.imp id (Or.imp id (fun q => by unfold t9d at q; rw [Bool.and_eq_true] at q; exact q.1)))) hS4
  · have T := tbsq
    have l0 := onz_len 1 ngc 1 (fun x => x) Γ0
    have hω : ∀ j, j < Γ0.length → vw (onz 1 ngc 1 (fun x => x) Γ0) j ≤ max 1 (fxq.getD (cch Γ0) 0) := fun j hj => Nat.le_trans (onz_chars (n1 := ngc) T.1 T.2.1 T.2.2.1 T.2.2.2.1 T.2.2.2.2.1 Γ0 oc0 (by omega) j hj) (Nat.le_max_right _ _)
    have hwB : nz 1 ngc 1 (fun x => x) (onz 1 ngc 1 (fun x => x) Γ0) B ≤ wbz frq 0 (max 1 (fxq.getD (cch Γ0) 0)) (tch B) := by
      unfold wbz
      rw [if_neg (by intro q'; have := Nat.eq_of_beq_eq_true q'; omega)]
      have q3 : nz 1 ngc 1 (fun x => x) (onz 1 ngc 1 (fun x => x) Γ0) B ≤ Zx frq (max 1 (fxq.getD (cch Γ0) 0)) (tch B + 2) := Zx_le T (by rw [l0]; exact oBB) (by omega) (Nat.le_max_left _ _) (fun j hj => hω j (by rw [l0] at hj; exact hj))
      omega
    exact t3_v (hv := 0) T (fun y y' hy => hy) (fun y => by show y ≤ 0 + max 1 y; omega) (by decide) frq_m xrq_ok T.2.2.2.1 T.2.2.2.2.1 (by decide) he hv' h0 h16 w4 k9 m5 hn (by omega) (by omega) (by omega) k40 (by omega) (n8 := 1) (by decide) hwB hω zc.2 (zd.imp id (Or.imp id (Or.imp id (fun q => by unfold t9d at q; rw [Bool.and_eq_true] at q; exact q.2)))) hS4
