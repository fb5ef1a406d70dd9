/-! THE CLASS: reading a type. -/
def WT (o : Nat) (p : Nat) (i : Int) : Prop := (p = 6 ∧ i = 6) ∨ (p = 38 ∧ (i = 7 ∨ i = 8 ∨ i = 11)) ∨ (p = 39 ∧ (o : Int) ≤ i)
/-- the reader stands at p, names e -/
def RdS (tx : Nat → Int) (ln : Nat) (e : List Int) (p : Nat) (M : pm_M) (Rf : Nat → Nat → Nat) (K L : Nat → Nat) (n z : Nat) (cn : Int) : Prop := pm_G Rf K L n ∧ RmI Rf K L n z ∧ (∀ p i, R32 (M p i)) ∧ M 6 6 = cn ∧ 1 ≤ cn ∧ cn ≤ z ∧ cn + ((ln - p : Nat) : Int) ≤ 8000 ∧ ndf M Rf cn 1 tTop 0 ∧ RTX M tx ln ∧ M 38 7 = (p : Int) ∧ p ≤ ln ∧ M 38 8 = (e.length : Int) ∧ TNm M e
/-- the node of what was read -/
def TyR (M : pm_M) (Rf : Nat → Nat → Nat) (cn : Int) (N : Nat) (c0 : Int) : Option (Ty × Bool) → Int → Prop
  | none, i => i = -1
  | some a, i => ndf M Rf cn N a.1 i ∧ M 38 11 = (if a.2 = true then c0 else 0)
def RdQ (e : List Int) (N p : Nat) (res : Nat × Option (Ty × Bool)) (M : pm_M) (Rf : Nat → Nat → Nat) (K L : Nat → Nat) (n s z : Nat) (cn : Int) (Q : Option Value → pm_S → Prop) : Prop := ∀ (M' : pm_M) (Rf' : Nat → Nat → Nat) (K' L' : Nat → Nat) (n' s' z' : Nat) (cn' i : Int), CX (WT e.length) M Rf K L n s z cn M' Rf' K' L' n' s' z' → M' 6 6 = cn' → cn ≤ cn' → cn' ≤ cn + ((res.1 - p : Nat) : Int) → cn' ≤ z' → M' 38 7 = (res.1 : Int) → M' 38 8 = (e.length : Int) → TyR M' Rf' cn' N (M 38 11) res.2 i → Q (some (.int (zI i))) (zM M', Rf', K', L', n', s')
def TyC (tx : Nat → Int) (ln d r : Nat) : Prop := ∀ (dp : Nat) (e : List Int) (p : Nat) (M : pm_M) (Rf : Nat → Nat → Nat) (K L : Nat → Nat) (n s z : Nat) (cn : Int) (Q : Option Value → pm_S → Prop), dp + r = 24 → RdS tx ln e p M Rf K L n z cn → e.length + r ≤ 24 → RdQ e (r + 1) p (pT tx ln r e p) M Rf K L n s z cn Q → pm_Wc (d + 6 * r + 12) 87 [.ref 38, .int (zI (dp : Int))] (zM M, Rf, K, L, n, s) Q
section PmC27
variable {tx : Nat → Int} {ln : Nat} {e : List Int} {p q : Nat} {M M' : pm_M} {Rf Rf' : Nat → Nat → Nat} {K L K' L' : Nat → Nat} {n s z n' s' z' : Nat} {cn cn' : Int}
theorem RdS.set (h : RdS tx ln e p M Rf K L n z cn) (f : ∀ (p : Nat) (i : Int), ¬ (p = 38 ∧ (i = 7 ∨ i = 11)) → M' p i = M p i) (h7 : M' 38 7 = (q : Int)) (hp : p ≤ q) (hq : q ≤ ln) (hM : ∀ p i, R32 (M' p i)) : RdS tx ln e q M' Rf K L n z cn := by
  obtain ⟨h1, h2, h3, h4, h5, h6, h7', h8, h9, h10, h11, h12, h13⟩ := h
  refine ⟨h1, h2, hM, (f 6 6 (by omega)).trans h4, h5, h6, by omega, ndf_mono (fun g hg i _ _ => f _ i (by have := h2.2.1 g hg; omega)) (Int.le_refl _) (Nat.le_refl _) h8, ⟨(f 38 6 (by omega)).trans h9.1, h9.2.1, fun i hi => ?_⟩, h7, hq, (f 38 8 (by omega)).trans h12, TNm.same (fun i _ _ => f 39 i (by omega)) h13⟩
  rw [f 2 i (by omega)]
  exact h9.2.2 i hi
theorem RdS.adv (h : RdS tx ln e p M Rf K L n z cn) (hp : p < ln) : RdS tx ln e (p + 1) (mset M 38 7 ((p + 1 : Nat) : Int)) Rf K L n z cn := by
  refine h.set (fun p' i hi => ?_) (mset_s _ _ _ _) (by omega) (by omega) (mset_R32 h.2.2.1 ?_)
  · unfold mset
    rw [if_neg (fun x => hi ⟨x.1, Or.inl x.2⟩)]
  · have := h.2.2.2.2.2.2.2.2.1.2.1
    exact ⟨by omega, by omega⟩
theorem RdS.cx (h : RdS tx ln e p M Rf K L n z cn) (cx : CX (WT e.length) M Rf K L n s z cn M' Rf' K' L' n' s' z') (m6 : M' 6 6 = cn') (hc : cn ≤ cn') (hc2 : cn' + ((ln - q : Nat) : Int) ≤ 8000) (cz : cn' ≤ z') (h7 : M' 38 7 = (q : Int)) (hq : q ≤ ln) (h8 : M' 38 8 = (e.length : Int)) : RdS tx ln e q M' Rf' K' L' n' z' cn' := by
  obtain ⟨g1, g2, g3, g4, g5, g6, g7, g8, g9, g10, g11, g12, g13⟩ := h
  have hn := g1.1
  have f : ∀ (p : Nat), p ≤ 99 → (p < 7 ∨ 11 < p) → ∀ i, ¬ WT e.length p i → M' p i = M p i := fun p hp hp2 i hw => cx.mem p (by omega) (fun g hg => by have := g2.2.1 g hg; omega) i hw
  refine ⟨cx.g, cx.r, cx.r32, m6, by omega, cz, hc2, ndf_mono cx.nodes hc (Nat.le_refl _) g8, ⟨(f 38 (by omega) (by omega) 6 (by unfold WT; omega)).trans g9.1, g9.2.1, fun i hi => ?_⟩, h7, hq, h8, TNm.same (fun i _ hi => f 39 (by omega) (by omega) i (by unfold WT; omega)) g13⟩
  rw [f 2 (by omega) (by omega) i (by unfold WT; omega)]
  exact g9.2.2 i hi
theorem RdS.wset (h : RdS tx ln e p M Rf K L n z cn) (v : Int) (hv : R32 v) : CX (WT e.length) M Rf K L n s z cn (mset M 38 7 v) Rf K L n s z := (CX.refl h.1 h.2.1 h.2.2.1).set (fun g hg => by have := h.2.1.2.1 g hg; omega) (by unfold WT; omega) hv
end PmC27
theorem or_pow : ∀ c, c < 3 → ∀ m, m < 8 → m < 2 ^ c → m ||| 2 ^ c = m + 2 ^ c := by decide
theorem lk_app {α : Type} (r : List (Nat × α)) (g : Nat) : ∀ a : List (Nat × α), lk (a ++ r) g = (lk a g).or (lk r g)
  | [] => rfl
  | b :: a => by
    show (if b.1 = g then some b.2 else lk (a ++ r) g) = (if b.1 = g then some b.2 else lk a g).or (lk r g)
    by_cases c : b.1 = g
    · rw [if_pos c, if_pos c]; rfl
    · rw [if_neg c, if_neg c]; exact lk_app r g a
theorem lk_lt {α : Type} {l g : Nat} (hg : l ≤ g) : ∀ {r : List (Nat × α)}, (∀ b ∈ r, b.1 < l) → lk r g = none
  | [], _ => rfl
  | b :: r, h => by
    show (if b.1 = g then some b.2 else lk r g) = none
    have := h b List.mem_cons_self
    rw [if_neg (by omega)]
    exact lk_lt hg (fun c hc => h c (List.mem_cons_of_mem _ hc))
theorem msk_app {α : Type} : ∀ (a r : List (Nat × α)), msk (a ++ r) = msk a + msk r
  | [], r => by show msk r = 0 + msk r; omega
  | b :: a, r => by
    show 2 ^ b.1 + msk (a ++ r) = 2 ^ b.1 + msk a + msk r
    rw [msk_app a r]; omega
theorem allc_app : ∀ (a r : List (Nat × (Ty × Bool))), allc (a ++ r) = (allc a && allc r)
  | [], r => rfl
  | b :: a, r => by
    show (b.2.2 && allc (a ++ r)) = ((b.2.2 && allc a) && allc r)
    rw [allc_app a r, Bool.and_assoc]
/-- a part of a record that was read, or none -/
def PX (M : pm_M) (Rf : Nat → Nat → Nat) (cn : Int) (N : Nat) (acc : List (Nat × (Ty × Bool))) (g : Nat) (v : Int) : Prop := 0 ≤ v ∧ v < cn ∧ ∀ a, lk acc g = some a → ndf M Rf cn N a.1 v
theorem PX.mono {M M' : pm_M} {Rf Rf' : Nat → Nat → Nat} {cn cn' : Int} {N g : Nat} {acc : List (Nat × (Ty × Bool))} {v : Int} (h : PX M Rf cn N acc g v) (e : ∀ g, g < 5 → ∀ i : Int, 0 ≤ i → i < cn → M' (Rf' 6 g) i = M (Rf 6 g) i) (hc : cn ≤ cn') : PX M' Rf' cn' N acc g v := ⟨h.1, by have := h.2.1; omega, fun a ha => ndf_mono e hc (Nat.le_refl _) (h.2.2 a ha)⟩
theorem PX.skip {M : pm_M} {Rf : Nat → Nat → Nat} {cn : Int} {N g c : Nat} {acc : List (Nat × (Ty × Bool))} {v : Int} {a : Ty × Bool} (h : PX M Rf cn N acc g v) (hc : c ≠ g) : PX M Rf cn N (acc ++ [(c, a)]) g v := by
  refine ⟨h.1, h.2.1, fun b hb => h.2.2 b ?_⟩
  rw [lk_app] at hb
  cases x : lk acc g with
  | none =>
    rw [x] at hb
    have hb : (if c = g then some a else none) = some b := hb
    rw [if_neg hc] at hb; cases hb
  | some y => rw [x] at hb; exact hb
theorem PX.put {M : pm_M} {Rf : Nat → Nat → Nat} {cn : Int} {N c l : Nat} {acc : List (Nat × (Ty × Bool))} {v : Int} {a : Ty × Bool} (hl : ∀ b ∈ acc, b.1 < l) (hc : l ≤ c) (h0 : 0 ≤ v) (h1 : v < cn) (h : ndf M Rf cn N a.1 v) : PX M Rf cn N (acc ++ [(c, a)]) c v := by
  refine ⟨h0, h1, fun b hb => ?_⟩
  rw [lk_app, lk_lt hc hl] at hb
  have hb : (if c = c then some a else none) = some b := hb
  rw [if_pos rfl] at hb
  injection hb with hb
  subst hb
  exact h
/-- what recordParts answers, of types -/
def rcR (tx : Nat → Int) (ln : Nat) (e : List Int) (p : Nat) : Nat → Nat × Option (Ty × Bool)
  | 0 => if chr tx ln p = 93 then (p + 1, some (mkR [])) else (p, none)
  | r + 1 => if chr tx ln p = 93 then (p + 1, some (mkR [])) else thn (pFs tx ln (pT tx ln r e) 93 3 0 p) (fun l q => (q, some (mkR l)))
section PmC28
variable {tx : Nat → Int} {ln d : Nat}

set_option maxRecDepth 20000 in
set_option maxHeartbeats 1000000 in
theorem c_funType {r : Nat} (IH : TyC tx ln d r) {e : List Int} {p dp : Nat} {M : pm_M} {Rf : Nat → Nat → Nat} {K L : Nat → Nat} {n s z : Nat} {cn : Int} {Q : Option Value → pm_S → Prop} (hS : RdS tx ln e p M Rf K L n z cn) (hdp : dp + r + 1 = 24) (he : e.length + r + 1 ≤ 24) (h : RdQ e (r + 2) p (thn (pT tx ln r e p) (fun a q => if chr tx ln q = 62 then thn (pT tx ln r e (q + 1)) (fun b q' => if chr tx ln q' = 41 then (q' + 1, some (tFun a.1 b.1, a.2 && b.2)) else (q', none)) else (q, none))) M Rf K L n s z cn Q) : pm_Wc (d + 6 * r + 13) 88 [.ref 38, .int (zI (dp : Int))] (zM M, Rf, K, L, n, s) Q := by
  have hp := hS.2.2.2.2.2.2.2.2.2.2.1
  have hb8 := hS.2.2.2.2.2.2.1
  have f1 := pT_fw (tx := tx) (ln := ln) r e p hp
  refine wc_in (ls0 := [some (.ref 38), some (.int (zI (dp : Int))), none, none]) (by decide) (Nat.le_of_ble_eq_true rfl) rfl rfl ?_
  refine wp_aload_n d88_0 rfl ?_
  refine wp_iload_n d88_1 rfl ?_
  refine wz_iconst d88_2 ?_
  refine wz_iadd d88_3 ?_
  refine wp_virt (as := [.int (zI ((dp : Int) + 1))]) (rest := []) d88_4 rfl rfl rfl (hS.1.o (by decide) rfl) rfl rfl (Nat.le_of_ble_eq_true rfl) ?_
  rw [show (dp : Int) + 1 = ((dp + 1 : Nat) : Int) by omega]
  refine IH (dp + 1) e p M Rf K L n s z cn _ (by omega) hS (by omega) (fun M1 R1 K1 L1 n1 s1 z1 cn1 i1 cx1 u1 u2 u3 u4 u5 u6 t1 => ?_)
  cases hpt : pT tx ln r e p with
  | mk q o =>
  rw [hpt] at f1 u3 u5 t1
  have q1 : p ≤ q := f1.1
  have q2 : q ≤ ln := f1.2.1
  have u3 : cn1 ≤ cn + ((q - p : Nat) : Int) := u3
  have u5 : M1 38 7 = (q : Int) := u5
  have S1 : RdS tx ln e q M1 R1 K1 L1 n1 z1 cn1 := hS.cx cx1 u1 u2 (by omega) u4 u5 q2 u6
  have hz1 := S1.2.1.2.2.2.2
  cases o with
  | none =>
    rw [thn_none hpt] at h
    have t1 : i1 = -1 := t1
    subst t1
    refine wp_istore_n d88_7 (Nat.le_of_ble_eq_true rfl) rfl ?_
    refine wp_iload_n d88_8 rfl ?_
    refine wz_iconst d88_9 ?_
    refine wz_icmp_eq (t := 22) d88_10 (by decide) ⟨by omega, by omega⟩ ⟨by omega, by omega⟩ (fun _ => ?_) (fun hb => absurd (rfl) hb)
    refine wz_iconst d88_22 ?_
    exact wp_ret d88_23 rfl (h M1 R1 K1 L1 n1 s1 z1 cn1 (-1) cx1 u1 u2 u3 u4 u5 u6 rfl)
  | some a =>
  rw [thn_some hpt] at h
  obtain ⟨x1, x2, x3⟩ := pT_ok r e p q a hpt
  obtain ⟨nd1, cl1⟩ := t1
  have rr1 := ndf_rng nd1
  refine wp_istore_n d88_7 (Nat.le_of_ble_eq_true rfl) rfl ?_
  refine wp_iload_n d88_8 rfl ?_
  refine wz_iconst d88_9 ?_
  refine wz_icmp_eq (t := 22) d88_10 (by decide) ⟨by omega, by omega⟩ ⟨by omega, by omega⟩ (fun hb => absurd hb (by omega)) (fun _ => ?_)
  refine wp_aload_n d88_13 rfl ?_
  refine wz_bipush d88_14 (by decide) ?_
  refine wp_virt (as := [.int (zI 62)]) (rest := []) d88_16 rfl rfl rfl (S1.1.o (by decide) rfl) rfl rfl (Nat.le_of_ble_eq_true rfl) ?_
  refine c_take S1.1 S1.2.2.2.2.2.2.2.2.1 u5 q2 (by decide) (by decide) (fun hc hlt => ?_) (fun hc => ?_)
  rotate_left
  · skip
    rw [if_neg hc] at h
    refine wz_if_ne (t := 24) d88_19 (by decide) ⟨by omega, by omega⟩ (fun hb => absurd (by decide) hb) (fun _ => ?_)
    refine wz_iconst d88_22 ?_
    exact wp_ret d88_23 rfl (h M1 R1 K1 L1 n1 s1 z1 cn1 (-1) cx1 u1 u2 u3 u4 u5 u6 rfl)
  rw [if_pos hc] at h
  refine wz_if_ne (t := 24) d88_19 (by decide) ⟨by omega, by omega⟩ (fun _ => ?_) (fun hb => absurd hb (by decide))
  have S2 := S1.adv hlt
  have cx2 := S1.wset (s := s1) ((q + 1 : Nat) : Int) ⟨by omega, by have := S1.2.2.2.2.2.2.2.2.1.2.1; omega⟩
  have f2 := pT_fw (tx := tx) (ln := ln) r e (q + 1) (by omega)
  refine wp_aload_n d88_24 rfl ?_
  refine wp_iload_n d88_25 rfl ?_
  refine wz_iconst d88_26 ?_
  refine wz_iadd d88_27 ?_
  refine wp_virt (as := [.int (zI ((dp : Int) + 1))]) (rest := []) d88_28 rfl rfl rfl (S2.1.o (by decide) rfl) rfl rfl (Nat.le_of_ble_eq_true rfl) ?_
  rw [show (dp : Int) + 1 = ((dp + 1 : Nat) : Int) by omega]
  refine IH (dp + 1) e (q + 1) _ R1 K1 L1 n1 s1 z1 cn1 _ (by omega) S2 (by omega) (fun M3 R3 K3 L3 n3 s3 z3 cn3 i3 cx3 v1 v2 v3 v4 v5 v6 t3 => ?_)
  have cx13 := cx1.trans (cx2.trans cx3 (Int.le_refl _)) u2
  cases hpt2 : pT tx ln r e (q + 1) with
  | mk q' o' =>
  rw [hpt2] at f2 v3 v5 t3
  have q3 : q + 1 ≤ q' := f2.1
  have q4 : q' ≤ ln := f2.2.1
  have v3 : cn3 ≤ cn1 + ((q' - (q + 1) : Nat) : Int) := v3
  have v5 : M3 38 7 = (q' : Int) := v5
  have S3 : RdS tx ln e q' M3 R3 K3 L3 n3 z3 cn3 := S2.cx cx3 v1 v2 (by omega) v4 v5 q4 v6
  have hz3 := S3.2.1.2.2.2.2
  rw [mset_i _ _ _ _ (by decide)] at t3
  cases o' with
  | none =>
    rw [thn_none hpt2] at h
    have t3 : i3 = -1 := t3
    subst t3
    refine wp_istore_n d88_31 (Nat.le_of_ble_eq_true rfl) rfl ?_
    refine wp_iload_n d88_32 rfl ?_
    refine wz_iconst d88_33 ?_
    refine wz_icmp_eq (t := 46) d88_34 (by decide) ⟨by omega, by omega⟩ ⟨by omega, by omega⟩ (fun _ => ?_) (fun hb => absurd (rfl) hb)
    refine wz_iconst d88_46 ?_
    exact wp_ret d88_47 rfl (h M3 R3 K3 L3 n3 s3 z3 cn3 (-1) cx13 v1 (by omega) (by show cn3 ≤ cn + ((q' - p : Nat) : Int); omega) v4 v5 v6 rfl)
  | some b =>
  rw [thn_some hpt2] at h
  obtain ⟨y1, y2, y3⟩ := pT_ok r e (q + 1) q' b hpt2
  obtain ⟨nd3, cl3⟩ := t3
  have rr3 := ndf_rng nd3
  refine wp_istore_n d88_31 (Nat.le_of_ble_eq_true rfl) rfl ?_
  refine wp_iload_n d88_32 rfl ?_
  refine wz_iconst d88_33 ?_
  refine wz_icmp_eq (t := 46) d88_34 (by decide) ⟨by omega, by omega⟩ ⟨by omega, by omega⟩ (fun hb => absurd hb (by omega)) (fun _ => ?_)
  refine wp_aload_n d88_37 rfl ?_
  refine wz_bipush d88_38 (by decide) ?_
  refine wp_virt (as := [.int (zI 41)]) (rest := []) d88_40 rfl rfl rfl (S3.1.o (by decide) rfl) rfl rfl (Nat.le_of_ble_eq_true rfl) ?_
  refine c_take S3.1 S3.2.2.2.2.2.2.2.2.1 v5 q4 (by decide) (by decide) (fun hc2 hlt2 => ?_) (fun hc2 => ?_)
  rotate_left
  · skip
    rw [if_neg hc2] at h
    refine wz_if_ne (t := 48) d88_43 (by decide) ⟨by omega, by omega⟩ (fun hb => absurd (by decide) hb) (fun _ => ?_)
    refine wz_iconst d88_46 ?_
    exact wp_ret d88_47 rfl (h M3 R3 K3 L3 n3 s3 z3 cn3 (-1) cx13 v1 (by omega) (by show cn3 ≤ cn + ((q' - p : Nat) : Int); omega) v4 v5 v6 rfl)
  rw [if_pos hc2] at h
  refine wz_if_ne (t := 48) d88_43 (by decide) ⟨by omega, by omega⟩ (fun _ => ?_) (fun hb => absurd hb (by decide))
  have S4 := S3.adv hlt2
  have cx4 := S3.wset (s := s3) ((q' + 1 : Nat) : Int) ⟨by omega, by have := S3.2.2.2.2.2.2.2.2.1.2.1; omega⟩
  have cx14 := cx13.trans cx4 (by omega)
  have idn : ∀ g, g < 5 → ∀ i : Int, 0 ≤ i → i < cn3 → mset M3 38 7 ((q' + 1 : Nat) : Int) (R3 6 g) i = M3 (R3 6 g) i := fun g hg i _ _ => mset_p _ _ _ _ (by have := S3.2.1.2.1 g hg; omega)
  have l60 := S3.2.2.2.2.2.2.2.2.1.2.1
  have oR : ok (e.length + 1) (tFun a.1 b.1) = true := ok_fun.mpr ⟨x1, y1⟩
  have X0f : XF (mset M3 38 7 ((q' + 1 : Nat) : Int)) R3 cn3 (r + 1) (tFun a.1 b.1) 0 i1 := ⟨rr1.1, by omega, fun _ => ndf_mono (fun g hg i i0 i1 => (idn g hg i i0 (by omega)).trans ((cx2.trans cx3 (Int.le_refl _)).nodes g hg i i0 i1)) v2 (Nat.le_refl _) nd1⟩
  have X1f : XF (mset M3 38 7 ((q' + 1 : Nat) : Int)) R3 cn3 (r + 1) (tFun a.1 b.1) 1 i3 := ⟨rr3.1, rr3.2, fun _ => ndf_mono idn (Int.le_refl _) (Nat.le_refl _) nd3⟩
  have X2f : XF (mset M3 38 7 ((q' + 1 : Nat) : Int)) R3 cn3 (r + 1) (tFun a.1 b.1) 2 0 := ⟨Int.le_refl _, by omega, fun hb => by rw [(hp_fun a.1 b.1).2.2] at hb; cases hb⟩
  have s0 := X0f.size oR (by decide)
  have s1' := X1f.size oR (by decide)
  have s2' := X2f.size oR (by decide)
  rw [(pt_fun a.1 b.1).1] at s0
  rw [(pt_fun a.1 b.1).2.1] at s1'
  have s2'' : psz (mset M3 38 7 ((q' + 1 : Nat) : Int)) R3 (cc (hd (tFun a.1 b.1))) 2 0 = 0 := s2'
  refine wp_aload_n d88_48 rfl ?_
  refine wp_getR (q := 6) d88_49 rfl (S4.1.o (by decide) rfl) (by decide) (S4.1.r (by decide +kernel)) (by decide) ?_
  refine wz_bipush d88_52 (by decide) ?_
  refine wp_iload_n d88_54 rfl ?_
  refine wp_iload_n d88_55 rfl ?_
  refine wz_iconst d88_56 ?_
  refine wp_virt (as := [.int (zI 0), .int (zI i3), .int (zI i1), .int (zI 19)]) (rest := []) d88_57 rfl rfl rfl (S4.1.o (by decide) rfl) rfl rfl (Nat.le_of_ble_eq_true rfl) ?_
  refine wc_deep (show 0 + 3 ≤ d + 6 * r + 12 by omega) ?_
  refine c_make (c := cc (hd (tFun a.1 b.1))) S4.1 S4.2.1 S4.2.2.1 S4.2.2.2.1 v4 (by omega) (by show 19 < 1000000; decide) rr1.1 (by omega) rr3.1 rr3.2 (Int.le_refl _) (by omega) (by rw [s0]; omega) (by rw [s1']; omega) (by rw [s2'']; decide) (fun M5 R5 K5 L5 n5 s5 z5 mk => ?_)
  have nd5 := mk.ndf oR (by omega) X0f X1f X2f
  have mcx := mk.cx
  obtain ⟨-, m6, mz, -⟩ := mk
  have cx15 := cx14.trans (mcx.weak (W' := WT e.length) (fun p q hw => Or.inl hw)) (by omega)
  have g : ∀ i, ¬ (i = 6 ∧ (38 : Nat) = 6) → M5 38 i = mset M3 38 7 ((q' + 1 : Nat) : Int) 38 i := fun i _ => mcx.mem 38 (by have := S4.1.1; omega) (fun g hg => by have := S4.2.1.2.1 g hg; omega) i (by omega)
  refine wp_ret d88_60 rfl (h M5 R5 K5 L5 n5 s5 z5 (cn3 + 1) cn3 cx15 m6 (by omega) (by show cn3 + 1 ≤ cn + ((q' + 1 - p : Nat) : Int); omega) (by omega) ?_ ?_ ⟨nd5, ?_⟩)
  · rw [g 7 (by omega), mset_s]
  · rw [g 8 (by omega), mset_i _ _ _ _ (by decide)]; exact v6
  · rw [g 11 (by omega), mset_i _ _ _ _ (by decide), cl3, cl1]
    show (if b.2 = true then (if a.2 = true then M 38 11 else 0) else 0) = if (a.2 && b.2) = true then M 38 11 else 0
    cases a.2 <;> cases b.2 <;> rfl
end PmC28
