/-! THE CLASS: reading a record type; any type. -/
section PmC30
variable {tx : Nat → Int} {ln d : Nat}
theorem c_recPartT {r : Nat} (IH : TyC tx ln d r) {e : List Int} {p dp : Nat} {M : pm_M} {Rf : Nat → Nat → Nat} {K L : Nat → Nat} {n s z : Nat} {cn : Int} {Q : Option Value → pm_S → Prop} (hS : RdS tx ln e p M Rf K L n z cn) (hdp : dp + r + 1 = 24) (he : e.length + r + 1 ≤ 24) (h : RdQ e (r + 1) p (pT tx ln r e p) M Rf K L n s z cn Q) : pm_Wc (d + 6 * r + 13) 91 [.ref 38, .int (zI 1), .int (zI (dp : Int))] (zM M, Rf, K, L, n, s) Q := by
  refine wc_in (ls0 := [some (.ref 38), some (.int (zI 1)), some (.int (zI (dp : Int)))]) (by decide) (Nat.le_of_ble_eq_true rfl) rfl rfl ?_
  refine wp_iload_n d91_0 rfl ?_
  refine wz_if_eq (t := 12) d91_1 (by decide) ⟨by omega, by omega⟩ (fun hb => absurd hb (by decide)) (fun _ => ?_)
  refine wp_aload_n d91_4 rfl ?_
  refine wp_iload_n d91_5 rfl ?_
  refine wz_iconst d91_6 ?_
  refine wz_iadd d91_7 ?_
  refine wp_virt (as := [.int (zI ((dp : Int) + 1))]) (rest := []) d91_8 rfl rfl rfl (hS.1.o (by decide) rfl) rfl rfl (Nat.le_of_ble_eq_true rfl) ?_
  rw [show (dp : Int) + 1 = ((dp + 1 : Nat) : Int) by omega]
  refine IH (dp + 1) e p M Rf K L n s z cn _ (by omega) hS (by omega) (fun M1 R1 K1 L1 n1 s1 z1 cn1 i1 cx1 u1 u2 u3 u4 u5 u6 t1 => ?_)
  exact wp_ret d91_11 rfl (h M1 R1 K1 L1 n1 s1 z1 cn1 i1 cx1 u1 u2 u3 u4 u5 u6 t1)
theorem pFs_succ {α : Type} (pr : Nat → Nat × Option α) (cl : Int) (k l p : Nat) : pFs tx ln pr cl (k + 1) l p = if chr tx ln p < 120 + (l : Int) ∨ 123 ≤ chr tx ln p then (p, none) else thn (pr (p + 1)) (fun t q => if chr tx ln q = cl then (q + 1, some [((chr tx ln p - 120).toNat, t)]) else if chr tx ln p = 122 ∨ chr tx ln q ≠ 44 then (q, none) else thn (pFs tx ln pr cl k ((chr tx ln p - 120).toNat + 1) (q + 1)) (fun r q' => (q', some (((chr tx ln p - 120).toNat, t) :: r)))) := rfl
theorem thn_thn {α β γ : Type} (a : Nat × Option α) (f : α → Nat → Nat × Option β) (g : β → Nat → Nat × Option γ) : thn (thn a f) g = thn a (fun t q => thn (f t q) g) := by
  obtain ⟨q, o⟩ := a
  cases o <;> rfl
set_option maxRecDepth 20000 in
set_option maxHeartbeats 2000000 in
theorem c_recT {R : Nat} (IH : ∀ r, R = r + 1 → TyC tx ln d r) {e : List Int} {p dp : Nat} {M : pm_M} {Rf : Nat → Nat → Nat} {K L : Nat → Nat} {n s z : Nat} {cn : Int} {Q : Option Value → pm_S → Prop} (hS : RdS tx ln e p M Rf K L n z cn) (hdp : dp + R = 24) (he : e.length + R ≤ 24) (h : RdQ e (R + 1) p (rcR tx ln e p R) M Rf K L n s z cn Q) (hcp : 1 ≤ p) (hlast : p ≤ ln) : pm_Wc (d + 6 * R + 9) 90 [.ref 38, .int (zI 1), .int (zI (-1)), .int (zI (dp : Int))] (zM M, Rf, K, L, n, s) Q := by
  have hpl := hS.2.2.2.2.2.2.2.2.2.2.1
  have hb8 := hS.2.2.2.2.2.2.1
  have l60 := hS.2.2.2.2.2.2.2.2.1.2.1
  have hcz := hS.2.2.2.2.2.1
  have h7 := hS.2.2.2.2.2.2.2.2.2.1
  have h8 := hS.2.2.2.2.2.2.2.2.2.2.2.1
  -- all parts are read
  have fin : ∀ (acc : List (Nat × (Ty × Bool))) (q : Nat) (M1 : pm_M) (R1 : Nat → Nat → Nat) (K1 L1 : Nat → Nat) (n1 s1 z1 : Nat) (cn1 x y zz : Int) (o9 o10 o11 o12 o13 : Option Value), Srt 0 acc → RdS tx ln e q M1 R1 K1 L1 n1 z1 cn1 → CX (WT e.length) M Rf K L n s z cn M1 R1 K1 L1 n1 s1 z1 → cn ≤ cn1 → cn1 + 1 ≤ cn + ((q - p : Nat) : Int) → PX M1 R1 cn1 R acc 0 x → PX M1 R1 cn1 R acc 1 y → PX M1 R1 cn1 R acc 2 zz → (∀ a ∈ acc, ok (e.length + 1) a.2.1 = true) → (flat (mkR acc).1).length ≤ 100 → M1 38 11 = (if allc acc = true then M 38 11 else 0) → rcR tx ln e p R = (q, some (mkR acc)) → pm_Wp none (d + 6 * R + 8) 90 180 [some (.ref 38), some (.int (zI 1)), some (.int (zI (-1))), some (.int (zI (dp : Int))), some (.int (zI 93)), some (.int (zI ((msk acc : Nat) : Int))), some (.int (zI x)), some (.int (zI y)), some (.int (zI zz)), o9, o10, o11, o12, o13] [] (zM M1, R1, K1, L1, n1, s1) Q := by
    intro acc q M1 R1 K1 L1 n1 s1 z1 cn1 x y zz o9 o10 o11 o12 o13 hs S1 cx1 hc1 hc2 px py pz hok hlen hcl hres
    rw [hres] at h
    have hm := msk_bits hs
    obtain ⟨p0, p1, p2⟩ := pt_rec hm.1 (lkT acc 0) (lkT acc 1) (lkT acc 2)
    have hpr := hp_rec hm.1 (lkT acc 0) (lkT acc 1) (lkT acc 2)
    have oR : ok (e.length + 1) (mkR acc).1 = true := mkR_ok hs hok
    have hz1 := S1.2.1.2.2.2.2
    have hb1 := S1.2.2.2.2.2.2.1
    have hone := S1.2.2.2.2.1
    have key : ∀ g v, g < 3 → PX M1 R1 cn1 R acc g v → pt (mkR acc).1 g = lkT acc g → XF M1 R1 cn1 R (mkR acc).1 g v := by
      intro g v hg px' hpt
      refine ⟨px'.1, px'.2.1, fun hb => ?_⟩
      have hb : hp (tRec (msk acc) (lkT acc 0) (lkT acc 1) (lkT acc 2)) g = true := hb
      rw [hpr g hg] at hb
      have hso := (hm.2 g hg).mp hb
      rw [hpt]
      unfold lkT
      cases el : lk acc g with
      | none => rw [el] at hso; cases hso
      | some a => exact px'.2.2 a el
    have X0f := key 0 x (by decide) px p0
    have X1f := key 1 y (by decide) py p1
    have X2f := key 2 zz (by decide) pz p2
    have s0 := X0f.size oR (by decide)
    have s1' := X1f.size oR (by decide)
    have s2' := X2f.size oR (by decide)
    have lp := len_pts oR
    have ccR : cc (hd (mkR acc).1) = 8 + msk acc := by
      show cc (hd (tRec (msk acc) (lkT acc 0) (lkT acc 1) (lkT acc 2))) = _
      rw [hd_rec, cc_rec hm.1]
    refine wp_iload_n d90_180 rfl ?_
    refine wz_if_eq (t := 203) d90_181 (by decide) ⟨by omega, by omega⟩ (fun hb => absurd hb (by decide)) (fun _ => ?_)
    refine wp_aload_n d90_184 rfl ?_
    refine wp_getR (q := 6) d90_185 rfl (S1.1.o (by decide) rfl) (by decide) (S1.1.r (by decide +kernel)) (by decide) ?_
    refine wz_bipush d90_188 (by decide) ?_
    refine wp_iload d90_190 rfl ?_
    refine wz_iadd d90_192 ?_
    rw [show (8 : Int) + ((msk acc : Nat) : Int) = ((cc (hd (mkR acc).1) : Nat) : Int) by rw [ccR]; omega]
    refine wp_iload d90_193 rfl ?_
    refine wp_iload d90_195 rfl ?_
    refine wp_iload d90_197 rfl ?_
    refine wp_virt (as := [.int (zI zz), .int (zI y), .int (zI x), .int (zI (((cc (hd (mkR acc).1) : Nat) : Int)))]) (rest := []) d90_199 rfl rfl rfl (S1.1.o (by decide) rfl) rfl rfl (Nat.le_of_ble_eq_true rfl) ?_
    refine wc_deep (show 0 + 3 ≤ d + 6 * R + 8 by omega) ?_
    refine c_make (c := cc (hd (mkR acc).1)) S1.1 S1.2.1 S1.2.2.1 S1.2.2.2.1 S1.2.2.2.2.2.1 (by omega) (by rw [ccR]; have := hm.1; omega) px.1 px.2.1 py.1 py.2.1 pz.1 pz.2.1 (by rw [s0]; omega) (by rw [s1']; omega) (by rw [s2']; omega) (fun M5 R5 K5 L5 n5 s5 z5 mk => ?_)
    have nd5 := mk.ndf oR (by omega) X0f X1f X2f
    have mcx := mk.cx
    obtain ⟨-, m6, mz, -⟩ := mk
    have cx15 := cx1.trans (mcx.weak (W' := WT e.length) (fun p q hw => Or.inl hw)) (by omega)
    have g : ∀ i : Int, M5 38 i = M1 38 i := fun i => mcx.mem 38 (by have := S1.1.1; omega) (fun g hg => by have := S1.2.1.2.1 g hg; omega) i (by omega)
    refine wp_ret d90_202 rfl (h M5 R5 K5 L5 n5 s5 z5 (cn1 + 1) cn1 cx15 m6 (by omega) hc2 (by omega) ?_ ?_ ⟨nd5, ?_⟩)
    · rw [g 7]; exact S1.2.2.2.2.2.2.2.2.2.1
    · rw [g 8]; exact S1.2.2.2.2.2.2.2.2.2.2.2.1
    · rw [g 11]; exact hcl
  -- the loop
  have loop : ∀ r, R = r + 1 → ∀ (k i l : Nat) (acc : List (Nat × (Ty × Bool))) (q : Nat) (M1 : pm_M) (R1 : Nat → Nat → Nat) (K1 L1 : Nat → Nat) (n1 s1 z1 : Nat) (cn1 x y zz : Int) (o12 o13 : Option Value), i + k = 3 → 3 ≤ l + k → l ≤ 2 → RdS tx ln e q M1 R1 K1 L1 n1 z1 cn1 → CX (WT e.length) M Rf K L n s z cn M1 R1 K1 L1 n1 s1 z1 → cn ≤ cn1 → cn1 ≤ cn + ((q - p : Nat) : Int) → p ≤ q → (∀ b ∈ acc, b.1 < l) → (∀ rest, Srt l rest → Srt 0 (acc ++ rest)) → msk acc < 2 ^ l → (flat (mkR acc).1).length + p ≤ q + 1 → PX M1 R1 cn1 R acc 0 x → PX M1 R1 cn1 R acc 1 y → PX M1 R1 cn1 R acc 2 zz → (∀ a ∈ acc, ok (e.length + 1) a.2.1 = true) → M1 38 11 = (if allc acc = true then M 38 11 else 0) → rcR tx ln e p R = thn (pFs tx ln (pT tx ln r e) 93 k l q) (fun rest q' => (q', some (mkR (acc ++ rest)))) → pm_Wp none (d + 6 * R + 8) 90 50 [some (.ref 38), some (.int (zI 1)), some (.int (zI (-1))), some (.int (zI (dp : Int))), some (.int (zI 93)), some (.int (zI ((msk acc : Nat) : Int))), some (.int (zI x)), some (.int (zI y)), some (.int (zI zz)), some (.int (zI (l : Int))), some (.int (zI 0)), some (.int (zI (i : Int))), o12, o13] [] (zM M1, R1, K1, L1, n1, s1) Q := by
    intro r hR k
    subst hR
    have IHr := IH r rfl
    induction k with
    | zero => intro i l acc q M1 R1 K1 L1 n1 s1 z1 cn1 x y zz o12 o13 hik hlk hl2; omega
    | succ k ih =>
      intro i l acc q M1 R1 K1 L1 n1 s1 z1 cn1 x y zz o12 o13 hik hlk hl2 S1 cx1 hc1 hc2 hpq hal hsr hmk hln px py pz hok hcl hres
      rw [pFs_succ] at hres
      have q2 := S1.2.2.2.2.2.2.2.2.2.2.1
      have s7 := S1.2.2.2.2.2.2.2.2.2.1
      have s8 := S1.2.2.2.2.2.2.2.2.2.2.2.1
      have sz := S1.2.2.2.2.2.1
      have hz1 := S1.2.1.2.2.2.2
      refine wp_aload_n d90_50 rfl ?_
      refine wp_iload d90_51 rfl ?_
      refine wp_iload_n d90_53 rfl ?_
      refine wp_virt (as := [.int (zI (dp : Int)), .int (zI (l : Int))]) (rest := []) d90_54 rfl rfl rfl (S1.1.o (by decide) rfl) rfl rfl (Nat.le_of_ble_eq_true rfl) ?_
      refine c_takeLabel S1.1 S1.2.2.2.2.2.2.2.2.1 s7 q2 (by omega) (by omega) (fun hc hd24 hlt => ?_) (fun hc => ?_)
      rotate_left
      · skip
        rw [if_pos (show chr tx ln q < 120 + (l : Int) ∨ 123 ≤ chr tx ln q by omega)] at hres
        have hres : rcR tx ln e p (r + 1) = (q, none) := hres
        rw [hres] at h
        refine wp_istore d90_57 (Nat.le_of_ble_eq_true rfl) rfl ?_
        refine wp_iload d90_59 rfl ?_
        refine wz_iconst d90_61 ?_
        refine wz_icmp_ne (t := 69) d90_62 (by decide) ⟨by omega, by omega⟩ ⟨by omega, by omega⟩ (fun hb => absurd (rfl) hb) (fun _ => ?_)
        refine wz_iconst d90_65 ?_
        refine wp_goto (t := 75) d90_66 (by decide) ?_
        refine wp_istore d90_75 (Nat.le_of_ble_eq_true rfl) rfl ?_
        refine wp_iload d90_77 rfl ?_
        refine wz_iconst d90_79 ?_
        refine wz_icmp_ne (t := 85) d90_80 (by decide) ⟨by omega, by omega⟩ ⟨by omega, by omega⟩ (fun hb => absurd (rfl) hb) (fun _ => ?_)
        refine wz_iconst d90_83 ?_
        exact wp_ret d90_84 rfl (h M1 R1 K1 L1 n1 s1 z1 cn1 (-1) cx1 S1.2.2.2.1 hc1 hc2 sz s7 s8 rfl)
      rw [if_neg hc, thn_thn] at hres
      have S2 := S1.adv hlt
      have cx2 := cx1.trans (S1.wset (s := s1) ((q + 1 : Nat) : Int) ⟨by omega, by omega⟩) hc1
      have f2 := pT_fw (tx := tx) (ln := ln) r e (q + 1) (by omega)
      obtain ⟨c, hce⟩ : ∃ c, (chr tx ln q - 120).toNat = c := ⟨_, rfl⟩
      have hlc : l ≤ c ∧ c ≤ 2 := by omega
      have hcch : chr tx ln q = 120 + (c : Int) := by omega
      rw [hce] at hres
      rw [hce]
      refine wp_istore d90_57 (Nat.le_of_ble_eq_true rfl) rfl ?_
      refine wp_iload d90_59 rfl ?_
      refine wz_iconst d90_61 ?_
      refine wz_icmp_ne (t := 69) d90_62 (by decide) ⟨by omega, by omega⟩ ⟨by omega, by omega⟩ (fun _ => ?_) (fun hb => absurd hb (by omega))
      refine wp_aload_n d90_69 rfl ?_
      refine wp_iload_n d90_70 rfl ?_
      refine wp_iload_n d90_71 rfl ?_
      refine wp_virt (as := [.int (zI (dp : Int)), .int (zI 1)]) (rest := []) d90_72 rfl rfl rfl (S2.1.o (by decide) rfl) rfl rfl (Nat.le_of_ble_eq_true rfl) ?_
      refine wc_deep (show d + 6 * r + 13 ≤ d + 6 * (r + 1) + 8 by omega) ?_
      refine c_recPartT IHr S2 (by omega) (by omega) (fun M3 R3 K3 L3 n3 s3 z3 cn3 i3 cx3 v1 v2 v3 v4 v5 v6 t3 => ?_)
      have cx13 := cx2.trans cx3 hc1
      rw [mset_i _ _ _ _ (by decide)] at t3
      cases hpt : pT tx ln r e (q + 1) with
      | mk q' o =>
      rw [hpt] at f2 v3 v5 t3
      have q3 : q + 1 ≤ q' := f2.1
      have q4 : q' ≤ ln := f2.2.1
      have v3 : cn3 ≤ cn1 + ((q' - (q + 1) : Nat) : Int) := v3
      have v5 : M3 38 7 = (q' : Int) := v5
      have S3 : RdS tx ln e q' M3 R3 K3 L3 n3 z3 cn3 := S2.cx cx3 v1 v2 (by omega) v4 v5 q4 v6
      have hz3 := S3.2.1.2.2.2.2
      cases o with
      | none =>
        rw [thn_none hpt] at hres
        rw [hres] at h
        have t3 : i3 = -1 := t3
        subst t3
        refine wp_istore d90_75 (Nat.le_of_ble_eq_true rfl) rfl ?_
        refine wp_iload d90_77 rfl ?_
        refine wz_iconst d90_79 ?_
        refine wz_icmp_ne (t := 85) d90_80 (by decide) ⟨by omega, by omega⟩ ⟨by omega, by omega⟩ (fun hb => absurd (rfl) hb) (fun _ => ?_)
        refine wz_iconst d90_83 ?_
        exact wp_ret d90_84 rfl (h M3 R3 K3 L3 n3 s3 z3 cn3 (-1) cx13 v1 (by omega) (by show cn3 ≤ cn + ((q' - p : Nat) : Int); omega) v4 v5 v6 rfl)
      | some a =>
      rw [thn_some hpt] at hres
      obtain ⟨x1, x2, x3⟩ := pT_ok r e (q + 1) q' a hpt
      obtain ⟨nd3, cl3⟩ := t3
      have rr3 := ndf_rng nd3
      have cx23 := (S1.wset (s := s1) ((q + 1 : Nat) : Int) ⟨by omega, by omega⟩).trans cx3 (Int.le_refl _)
      have px3 := px.mono cx23.nodes v2
      have py3 := py.mono cx23.nodes v2
      have pz3 := pz.mono cx23.nodes v2
      have hmc : msk acc < 2 ^ c := Nat.lt_of_lt_of_le hmk (Nat.pow_le_pow_right (by decide) hlc.1)
      have hm8 : msk acc < 8 := Nat.lt_of_lt_of_le hmk (Nat.le_trans (Nat.pow_le_pow_right (by decide) hl2) (by decide))
      have hcl3 : M3 38 11 = (if allc (acc ++ [(c, a)]) = true then M 38 11 else 0) := by
        rw [cl3, hcl, allc_app]
        show (if a.2 = true then (if allc acc = true then M 38 11 else 0) else 0) = if (allc acc && (a.2 && true)) = true then M 38 11 else 0
        cases a.2 <;> cases allc acc <;> rfl
      have hok3 : ∀ b ∈ acc ++ [(c, a)], ok (e.length + 1) b.2.1 = true := by
        intro b hb
        rcases List.mem_append.mp hb with hb | hb
        · exact hok b hb
        · rw [List.mem_singleton] at hb; rw [hb]; exact x1
      have hal3 : ∀ b ∈ acc ++ [(c, a)], b.1 < c + 1 := by
        intro b hb
        rcases List.mem_append.mp hb with hb | hb
        · have := hal b hb; omega
        · rw [List.mem_singleton] at hb; rw [hb]; exact Nat.lt_succ_self c
      have hsr3 : ∀ rest, Srt (c + 1) rest → Srt 0 ((acc ++ [(c, a)]) ++ rest) := by
        intro rest hr
        rw [List.append_assoc]
        exact hsr _ ⟨hlc.1, by show c < 3; omega, hr⟩
      have hs3 : Srt 0 (acc ++ [(c, a)]) := by have := hsr3 [] trivial; rw [List.append_nil] at this; exact this
      have hs1 : Srt 0 acc := by have := hsr [] trivial; rw [List.append_nil] at this; exact this
      have hmk3 : msk (acc ++ [(c, a)]) = msk acc + 2 ^ c := by rw [msk_app]; rfl
      have hln3 : (flat (mkR (acc ++ [(c, a)])).1).length + p ≤ q' + 1 := by
        rw [mkR_len hs1, fsz_sum] at hln
        rw [mkR_len hs3, fsz_sum, List.map_append, List.sum_append]
        simp only [List.map_cons, List.map_nil, List.sum_cons, List.sum_nil]
        omega
      -- behind the part
      have next : ∀ (x' y' z' : Int) (o12 o13 : Option Value), PX M3 R3 cn3 (r + 1) (acc ++ [(c, a)]) 0 x' → PX M3 R3 cn3 (r + 1) (acc ++ [(c, a)]) 1 y' → PX M3 R3 cn3 (r + 1) (acc ++ [(c, a)]) 2 z' → pm_Wp none (d + 6 * (r + 1) + 8) 90 144 [some (.ref 38), some (.int (zI 1)), some (.int (zI (-1))), some (.int (zI (dp : Int))), some (.int (zI 93)), some (.int (zI ((msk (acc ++ [(c, a)]) : Nat) : Int))), some (.int (zI x')), some (.int (zI y')), some (.int (zI z')), some (.int (zI ((c + 1 : Nat) : Int))), some (.int (zI 0)), some (.int (zI (i : Int))), o12, o13] [] (zM M3, R3, K3, L3, n3, s3) Q := by
        intro x' y' z' o12 o13 px' py' pz'
        refine wp_aload_n d90_144 rfl ?_
        refine wp_iload d90_145 rfl ?_
        refine wp_virt (as := [.int (zI 93)]) (rest := []) d90_147 rfl rfl rfl (S3.1.o (by decide) rfl) rfl rfl (Nat.le_of_ble_eq_true rfl) ?_
        refine c_take S3.1 S3.2.2.2.2.2.2.2.2.1 v5 q4 (by decide) (by decide) (fun hd1 hlt4 => ?_) (fun hd1 => ?_)
        · skip
          rw [if_pos hd1] at hres
          have hres : rcR tx ln e p (r + 1) = (q' + 1, some (mkR (acc ++ [(c, a)]))) := hres
          have S4 := S3.adv hlt4
          have cx4 := cx13.trans (S3.wset (s := s3) ((q' + 1 : Nat) : Int) ⟨by omega, by omega⟩) (by omega)
          have idn : ∀ g, g < 5 → ∀ i : Int, 0 ≤ i → i < cn3 → mset M3 38 7 ((q' + 1 : Nat) : Int) (R3 6 g) i = M3 (R3 6 g) i := fun g hg i _ _ => mset_p _ _ _ _ (by have := S3.2.1.2.1 g hg; omega)
          have exit : ∀ (o9 o10 o11 o12 o13 : Option Value), pm_Wp none (d + 6 * (r + 1) + 8) 90 180 [some (.ref 38), some (.int (zI 1)), some (.int (zI (-1))), some (.int (zI (dp : Int))), some (.int (zI 93)), some (.int (zI ((msk (acc ++ [(c, a)]) : Nat) : Int))), some (.int (zI x')), some (.int (zI y')), some (.int (zI z')), o9, o10, o11, o12, o13] [] (zM (mset M3 38 7 ((q' + 1 : Nat) : Int)), R3, K3, L3, n3, s3) Q := fun o9 o10 o11 o12 o13 => fin (acc ++ [(c, a)]) (q' + 1) _ R3 K3 L3 n3 s3 z3 cn3 x' y' z' o9 o10 o11 o12 o13 hs3 S4 cx4 (by omega) (by omega) (px'.mono idn (Int.le_refl _)) (py'.mono idn (Int.le_refl _)) (pz'.mono idn (Int.le_refl _)) hok3 (by omega) (by rw [mset_i _ _ _ _ (by decide)]; exact hcl3) hres
          refine wp_istore d90_150 (Nat.le_of_ble_eq_true rfl) rfl ?_
          refine wp_iload d90_152 rfl ?_
          refine wz_if_ne (t := 174) d90_154 (by decide) ⟨by omega, by omega⟩ (fun _ => ?_) (fun hb => absurd hb (by decide))
          refine wz_iinc d90_174 rfl rfl ?_
          refine wp_goto (t := 39) d90_177 (by decide) ?_
          refine wp_iload d90_39 rfl ?_
          refine wz_iconst d90_41 ?_
          refine wz_icmp_ge (t := 180) d90_42 (by decide) ⟨by omega, by omega⟩ ⟨by omega, by omega⟩ (fun hi3 => ?_) (fun hi3 => ?_)
          · skip
            exact exit _ _ _ _ _
          · skip
            refine wp_iload d90_45 rfl ?_
            refine wz_if_ne (t := 180) d90_47 (by decide) ⟨by omega, by omega⟩ (fun _ => ?_) (fun hb => absurd hb (by decide))
            exact exit _ _ _ _ _
        · skip
          rw [if_neg hd1] at hres
          refine wp_istore d90_150 (Nat.le_of_ble_eq_true rfl) rfl ?_
          refine wp_iload d90_152 rfl ?_
          refine wz_if_ne (t := 174) d90_154 (by decide) ⟨by omega, by omega⟩ (fun hb => absurd (by decide) hb) (fun _ => ?_)
          refine wp_iload d90_157 rfl ?_
          refine wz_iconst d90_159 ?_
          have fail : rcR tx ln e p (r + 1) = (q', none) → pm_Wp none (d + 6 * (r + 1) + 8) 90 172 [some (.ref 38), some (.int (zI 1)), some (.int (zI (-1))), some (.int (zI (dp : Int))), some (.int (zI 93)), some (.int (zI ((msk (acc ++ [(c, a)]) : Nat) : Int))), some (.int (zI x')), some (.int (zI y')), some (.int (zI z')), some (.int (zI ((c + 1 : Nat) : Int))), some (.int (zI 0)), some (.int (zI (i : Int))), o12, o13] [] (zM M3, R3, K3, L3, n3, s3) Q := by
            intro hf
            rw [hf] at h
            refine wz_iconst d90_172 ?_
            exact wp_ret d90_173 rfl (h M3 R3 K3 L3 n3 s3 z3 cn3 (-1) cx13 v1 (by omega) (by show cn3 ≤ cn + ((q' - p : Nat) : Int); omega) v4 v5 v6 rfl)
          refine wz_icmp_ge (t := 172) d90_160 (by decide) ⟨by omega, by omega⟩ ⟨by omega, by omega⟩ (fun hl3 => ?_) (fun hl3 => ?_)
          · skip
            rw [if_pos (Or.inl (by omega))] at hres
            exact fail hres
          · skip
            refine wp_aload_n d90_163 rfl ?_
            refine wz_bipush d90_164 (by decide) ?_
            refine wp_virt (as := [.int (zI 44)]) (rest := []) d90_166 rfl rfl rfl (S3.1.o (by decide) rfl) rfl rfl (Nat.le_of_ble_eq_true rfl) ?_
            refine c_take S3.1 S3.2.2.2.2.2.2.2.2.1 v5 q4 (by decide) (by decide) (fun hd2 hlt5 => ?_) (fun hd2 => ?_)
            rotate_left
            · skip
              refine wz_if_ne (t := 174) d90_169 (by decide) ⟨by omega, by omega⟩ (fun hb => absurd (by decide) hb) (fun _ => ?_)
              rw [if_pos (Or.inr hd2)] at hres
              exact fail hres
            rw [if_neg (show ¬ (chr tx ln q = 122 ∨ chr tx ln q' ≠ 44) from fun x => x.elim (fun y => by omega) (fun y => y hd2)), thn_thn] at hres
            have S5 := S3.adv hlt5
            have cx5 := cx13.trans (S3.wset (s := s3) ((q' + 1 : Nat) : Int) ⟨by omega, by omega⟩) (by omega)
            have idn : ∀ g, g < 5 → ∀ i : Int, 0 ≤ i → i < cn3 → mset M3 38 7 ((q' + 1 : Nat) : Int) (R3 6 g) i = M3 (R3 6 g) i := fun g hg i _ _ => mset_p _ _ _ _ (by have := S3.2.1.2.1 g hg; omega)
            refine wz_if_ne (t := 174) d90_169 (by decide) ⟨by omega, by omega⟩ (fun _ => ?_) (fun hb => absurd hb (by decide))
            refine wz_iinc d90_174 rfl rfl ?_
            refine wp_goto (t := 39) d90_177 (by decide) ?_
            refine wp_iload d90_39 rfl ?_
            refine wz_iconst d90_41 ?_
            refine wz_icmp_ge (t := 180) d90_42 (by decide) ⟨by omega, by omega⟩ ⟨by omega, by omega⟩ (fun hb => absurd hb (by omega)) (fun _ => ?_)
            refine wp_iload d90_45 rfl ?_
            refine wz_if_ne (t := 180) d90_47 (by decide) ⟨by omega, by omega⟩ (fun hb => absurd (by decide) hb) (fun _ => ?_)
            rw [show (i : Int) + 1 = ((i + 1 : Nat) : Int) by omega]
            refine ih (i + 1) (c + 1) (acc ++ [(c, a)]) (q' + 1) _ R3 K3 L3 n3 s3 z3 cn3 x' y' z' _ _ (by omega) (by omega) (by omega) S5 cx5 (by omega) (by omega) (by omega) hal3 hsr3 (by rw [hmk3, Nat.pow_succ]; omega) (by omega) (px'.mono idn (Int.le_refl _)) (py'.mono idn (Int.le_refl _)) (pz'.mono idn (Int.le_refl _)) hok3 (by rw [mset_i _ _ _ _ (by decide)]; exact hcl3) ?_
            rw [hres]
            congr 1
            funext rest q2
            show (q2, some (mkR (acc ++ ((c, a) :: rest)))) = (q2, some (mkR ((acc ++ [(c, a)]) ++ rest)))
            rw [List.append_assoc]
            rfl
      refine wp_istore d90_75 (Nat.le_of_ble_eq_true rfl) rfl ?_
      refine wp_iload d90_77 rfl ?_
      refine wz_iconst d90_79 ?_
      refine wz_icmp_ne (t := 85) d90_80 (by decide) ⟨by omega, by omega⟩ ⟨by omega, by omega⟩ (fun _ => ?_) (fun hb => absurd hb (by omega))
      refine wp_iload d90_85 rfl ?_
      refine wz_iconst d90_87 ?_
      refine wp_iload d90_88 rfl ?_
      refine wz_ishl d90_90 (by omega) (by omega) (by omega) (by omega) ?_
      refine wz_ior d90_91 (by first | omega | exact Int.natCast_nonneg _) (by first | omega | exact Int.natCast_nonneg _) ?_
      have em : (((((msk acc : Nat) : Int) : Int).toNat ||| ((((1 : Int).toNat * 2 ^ ((c : Int) : Int).toNat : Nat) : Int) : Int).toNat : Nat) : Int) = ((msk (acc ++ [(c, a)]) : Nat) : Int) := by
        rw [hmk3, ← or_pow c (by omega) (msk acc) hm8 hmc, Int.toNat_natCast, Int.toNat_natCast, Int.toNat_natCast]
        show (((msk acc ||| (1 * 2 ^ c) : Nat)) : Int) = _
        rw [Nat.one_mul]
      rw [em]
      refine wp_istore d90_92 (Nat.le_of_ble_eq_true rfl) rfl ?_
      rcases (show c = 0 ∨ c = 1 ∨ c = 2 by omega) with rfl | rfl | rfl
      · skip
        refine wp_iload d90_94 rfl ?_
        refine wz_if_ne (t := 104) d90_96 (by decide) ⟨by omega, by omega⟩ (fun hb => absurd (by omega) hb) (fun _ => ?_)
        refine wp_iload d90_99 rfl ?_
        refine wp_goto (t := 106) d90_101 (by decide) ?_
        refine wp_istore d90_106 (Nat.le_of_ble_eq_true rfl) rfl ?_
        refine wp_iload d90_108 rfl ?_
        refine wz_iconst d90_110 ?_
        refine wz_icmp_ne (t := 119) d90_111 (by decide) ⟨by omega, by omega⟩ ⟨by omega, by omega⟩ (fun _ => ?_) (fun hb => absurd hb (by omega))
        refine wp_iload d90_119 rfl ?_
        refine wp_istore d90_121 (Nat.le_of_ble_eq_true rfl) rfl ?_
        refine wp_iload d90_123 rfl ?_
        refine wz_iconst d90_125 ?_
        refine wz_icmp_ne (t := 134) d90_126 (by decide) ⟨by omega, by omega⟩ ⟨by omega, by omega⟩ (fun _ => ?_) (fun hb => absurd hb (by omega))
        refine wp_iload d90_134 rfl ?_
        refine wp_istore d90_136 (Nat.le_of_ble_eq_true rfl) rfl ?_
        refine wp_iload d90_138 rfl ?_
        refine wz_iconst d90_140 ?_
        refine wz_iadd d90_141 ?_
        refine wp_istore d90_142 (Nat.le_of_ble_eq_true rfl) rfl ?_
        rw [show ((0 : Nat) : Int) + 1 = ((0 + 1 : Nat) : Int) by omega]
        exact next i3 y zz _ _ (PX.put hal hlc.1 rr3.1 rr3.2 nd3) (py3.skip (by decide)) (pz3.skip (by decide))
      · skip
        refine wp_iload d90_94 rfl ?_
        refine wz_if_ne (t := 104) d90_96 (by decide) ⟨by omega, by omega⟩ (fun _ => ?_) (fun hb => absurd hb (by omega))
        refine wp_iload d90_104 rfl ?_
        refine wp_istore d90_106 (Nat.le_of_ble_eq_true rfl) rfl ?_
        refine wp_iload d90_108 rfl ?_
        refine wz_iconst d90_110 ?_
        refine wz_icmp_ne (t := 119) d90_111 (by decide) ⟨by omega, by omega⟩ ⟨by omega, by omega⟩ (fun hb => absurd (by omega) hb) (fun _ => ?_)
        refine wp_iload d90_114 rfl ?_
        refine wp_goto (t := 121) d90_116 (by decide) ?_
        refine wp_istore d90_121 (Nat.le_of_ble_eq_true rfl) rfl ?_
        refine wp_iload d90_123 rfl ?_
        refine wz_iconst d90_125 ?_
        refine wz_icmp_ne (t := 134) d90_126 (by decide) ⟨by omega, by omega⟩ ⟨by omega, by omega⟩ (fun _ => ?_) (fun hb => absurd hb (by omega))
        refine wp_iload d90_134 rfl ?_
        refine wp_istore d90_136 (Nat.le_of_ble_eq_true rfl) rfl ?_
        refine wp_iload d90_138 rfl ?_
        refine wz_iconst d90_140 ?_
        refine wz_iadd d90_141 ?_
        refine wp_istore d90_142 (Nat.le_of_ble_eq_true rfl) rfl ?_
        rw [show ((1 : Nat) : Int) + 1 = ((1 + 1 : Nat) : Int) by omega]
        exact next x i3 zz _ _ (px3.skip (by decide)) (PX.put hal hlc.1 rr3.1 rr3.2 nd3) (pz3.skip (by decide))
      · skip
        refine wp_iload d90_94 rfl ?_
        refine wz_if_ne (t := 104) d90_96 (by decide) ⟨by omega, by omega⟩ (fun _ => ?_) (fun hb => absurd hb (by omega))
        refine wp_iload d90_104 rfl ?_
        refine wp_istore d90_106 (Nat.le_of_ble_eq_true rfl) rfl ?_
        refine wp_iload d90_108 rfl ?_
        refine wz_iconst d90_110 ?_
        refine wz_icmp_ne (t := 119) d90_111 (by decide) ⟨by omega, by omega⟩ ⟨by omega, by omega⟩ (fun _ => ?_) (fun hb => absurd hb (by omega))
        refine wp_iload d90_119 rfl ?_
        refine wp_istore d90_121 (Nat.le_of_ble_eq_true rfl) rfl ?_
        refine wp_iload d90_123 rfl ?_
        refine wz_iconst d90_125 ?_
        refine wz_icmp_ne (t := 134) d90_126 (by decide) ⟨by omega, by omega⟩ ⟨by omega, by omega⟩ (fun hb => absurd (by omega) hb) (fun _ => ?_)
        refine wp_iload d90_129 rfl ?_
        refine wp_goto (t := 136) d90_131 (by decide) ?_
        refine wp_istore d90_136 (Nat.le_of_ble_eq_true rfl) rfl ?_
        refine wp_iload d90_138 rfl ?_
        refine wz_iconst d90_140 ?_
        refine wz_iadd d90_141 ?_
        refine wp_istore d90_142 (Nat.le_of_ble_eq_true rfl) rfl ?_
        rw [show ((2 : Nat) : Int) + 1 = ((2 + 1 : Nat) : Int) by omega]
        exact next x y i3 _ _ (px3.skip (by decide)) (py3.skip (by decide)) (PX.put hal hlc.1 rr3.1 rr3.2 nd3)
  refine wc_in (ls0 := [some (.ref 38), some (.int (zI 1)), some (.int (zI (-1))), some (.int (zI (dp : Int))), none, none, none, none, none, none, none, none, none, none]) (by decide) (Nat.le_of_ble_eq_true rfl) rfl rfl ?_
  refine wp_iload_n d90_0 rfl ?_
  refine wz_if_eq (t := 9) d90_1 (by decide) ⟨by omega, by omega⟩ (fun hb => absurd hb (by decide)) (fun _ => ?_)
  refine wz_bipush d90_4 (by decide) ?_
  refine wp_goto (t := 11) d90_6 (by decide) ?_
  refine wp_istore d90_11 (Nat.le_of_ble_eq_true rfl) rfl ?_
  refine wz_iconst d90_13 ?_
  refine wp_istore d90_14 (Nat.le_of_ble_eq_true rfl) rfl ?_
  refine wz_iconst d90_16 ?_
  refine wp_istore d90_17 (Nat.le_of_ble_eq_true rfl) rfl ?_
  refine wz_iconst d90_19 ?_
  refine wp_istore d90_20 (Nat.le_of_ble_eq_true rfl) rfl ?_
  refine wz_iconst d90_22 ?_
  refine wp_istore d90_23 (Nat.le_of_ble_eq_true rfl) rfl ?_
  refine wz_iconst d90_25 ?_
  refine wp_istore d90_26 (Nat.le_of_ble_eq_true rfl) rfl ?_
  refine wp_aload_n d90_28 rfl ?_
  refine wp_iload d90_29 rfl ?_
  refine wp_virt (as := [.int (zI 93)]) (rest := []) d90_31 rfl rfl rfl (hS.1.o (by decide) rfl) rfl rfl (Nat.le_of_ble_eq_true rfl) ?_
  have px0 : ∀ (M1 : pm_M) (R1 : Nat → Nat → Nat) (g : Nat), PX M1 R1 cn R [] g 0 := fun M1 R1 g => ⟨Int.le_refl _, by have := hS.2.2.2.2.1; omega, fun a ha => by cases ha⟩
  have l0 : (flat (mkR []).1).length = 1 := rfl
  refine c_take hS.1 hS.2.2.2.2.2.2.2.2.1 h7 hpl (by decide) (by decide) (fun hd1 hlt => ?_) (fun hd1 => ?_)
  · skip
    have S1 := hS.adv hlt
    have cx1 := hS.wset (s := s) ((p + 1 : Nat) : Int) ⟨by omega, by omega⟩
    have hres : rcR tx ln e p R = (p + 1, some (mkR [])) := by
      cases R with
      | zero => exact if_pos hd1
      | succ r => exact if_pos hd1
    refine wp_istore d90_34 (Nat.le_of_ble_eq_true rfl) rfl ?_
    refine wz_iconst d90_36 ?_
    refine wp_istore d90_37 (Nat.le_of_ble_eq_true rfl) rfl ?_
    refine wp_iload d90_39 rfl ?_
    refine wz_iconst d90_41 ?_
    refine wz_icmp_ge (t := 180) d90_42 (by decide) ⟨by omega, by omega⟩ ⟨by omega, by omega⟩ (fun hb => absurd hb (by omega)) (fun _ => ?_)
    refine wp_iload d90_45 rfl ?_
    refine wz_if_ne (t := 180) d90_47 (by decide) ⟨by omega, by omega⟩ (fun _ => ?_) (fun hb => absurd hb (by decide))
    have q := fin [] (p + 1) _ Rf K L n s z cn 0 0 0 (some (.int (zI 0))) (some (.int (zI 1))) (some (.int (zI 0))) none none trivial S1 cx1 (Int.le_refl _) (by omega) (px0 _ _ 0) (px0 _ _ 1) (px0 _ _ 2) (fun a ha => by cases ha) (by rw [l0]; decide) (by rw [mset_i _ _ _ _ (by decide)]; rfl) hres
    exact q
  · skip
    refine wp_istore d90_34 (Nat.le_of_ble_eq_true rfl) rfl ?_
    refine wz_iconst d90_36 ?_
    refine wp_istore d90_37 (Nat.le_of_ble_eq_true rfl) rfl ?_
    refine wp_iload d90_39 rfl ?_
    refine wz_iconst d90_41 ?_
    refine wz_icmp_ge (t := 180) d90_42 (by decide) ⟨by omega, by omega⟩ ⟨by omega, by omega⟩ (fun hb => absurd hb (by omega)) (fun _ => ?_)
    refine wp_iload d90_45 rfl ?_
    refine wz_if_ne (t := 180) d90_47 (by decide) ⟨by omega, by omega⟩ (fun hb => absurd (by decide) hb) (fun _ => ?_)
    cases R with
    | zero =>
      have hres : rcR tx ln e p 0 = (p, none) := if_neg hd1
      rw [hres] at h
      refine wp_aload_n d90_50 rfl ?_
      refine wp_iload d90_51 rfl ?_
      refine wp_iload_n d90_53 rfl ?_
      refine wp_virt (as := [.int (zI (dp : Int)), .int (zI 0)]) (rest := []) d90_54 rfl rfl rfl (hS.1.o (by decide) rfl) rfl rfl (Nat.le_of_ble_eq_true rfl) ?_
      rw [show (0 : Int) = ((0 : Nat) : Int) by rfl]
      refine c_takeLabel (l := 0) hS.1 hS.2.2.2.2.2.2.2.2.1 h7 hpl (by decide) (by omega) (fun _ h24 => absurd h24 (by omega)) (fun _ => ?_)
      refine wp_istore d90_57 (Nat.le_of_ble_eq_true rfl) rfl ?_
      refine wp_iload d90_59 rfl ?_
      refine wz_iconst d90_61 ?_
      refine wz_icmp_ne (t := 69) d90_62 (by decide) ⟨by omega, by omega⟩ ⟨by omega, by omega⟩ (fun hb => absurd (rfl) hb) (fun _ => ?_)
      refine wz_iconst d90_65 ?_
      refine wp_goto (t := 75) d90_66 (by decide) ?_
      refine wp_istore d90_75 (Nat.le_of_ble_eq_true rfl) rfl ?_
      refine wp_iload d90_77 rfl ?_
      refine wz_iconst d90_79 ?_
      refine wz_icmp_ne (t := 85) d90_80 (by decide) ⟨by omega, by omega⟩ ⟨by omega, by omega⟩ (fun hb => absurd (rfl) hb) (fun _ => ?_)
      refine wz_iconst d90_83 ?_
      exact wp_ret d90_84 rfl (h M Rf K L n s z cn (-1) (CX.refl hS.1 hS.2.1 hS.2.2.1) hS.2.2.2.1 (Int.le_refl _) (by omega) hcz h7 h8 rfl)
    | succ r =>
      have hres : rcR tx ln e p (r + 1) = thn (pFs tx ln (pT tx ln r e) 93 3 0 p) (fun rest q' => (q', some (mkR ([] ++ rest)))) := if_neg hd1
      exact loop r rfl 3 0 0 [] p M Rf K L n s z cn 0 0 0 none none (by decide) (by decide) (by decide) hS (CX.refl hS.1 hS.2.1 hS.2.2.1) (Int.le_refl _) (by omega) (Nat.le_refl _) (fun b hb => by cases hb) (fun rest hr => hr) (by decide) (by rw [l0]; omega) (px0 _ _ 0) (px0 _ _ 1) (px0 _ _ 2) (fun a ha => by cases ha) rfl hres
end PmC30
