/-! THE CLASS: reading records. -/
section PmC37
variable {tx : Nat → Int} {ln d : Nat}
/-- the parts of a record, read so far -/
def PXm (M : pm_M) (X : Nat) (lo cnt : Int) (T : Ty → Int → Prop) (N : Nat) (acc : List (Nat × (Ty × Bool))) (g : Nat) (v : Int) : Prop := R32 v ∧ ∀ a, lk acc g = some a → a.2 = true → CNd M X lo cnt T N a.1 v
theorem PXm.skip {M : pm_M} {X : Nat} {lo cnt : Int} {T : Ty → Int → Prop} {N g c : Nat} {acc : List (Nat × (Ty × Bool))} {v : Int} {a : Ty × Bool} (h : PXm M X lo cnt T N acc g v) (hc : c ≠ g) : PXm M X lo cnt T N (acc ++ [(c, a)]) g v := by
  refine ⟨h.1, fun b hb => ?_⟩
  rw [lk_app] at hb
  have : lk [(c, a)] g = none := if_neg hc
  rw [this, Option.or_none] at hb
  exact h.2 b hb
theorem PXm.put {M : pm_M} {X : Nat} {lo cnt : Int} {T : Ty → Int → Prop} {N c l : Nat} {acc : List (Nat × (Ty × Bool))} {v : Int} {a : Ty × Bool} (hl : ∀ b ∈ acc, b.1 < l) (hc : l ≤ c) (h0 : R32 v) (h : a.2 = true → CNd M X lo cnt T N a.1 v) : PXm M X lo cnt T N (acc ++ [(c, a)]) c v := by
  refine ⟨h0, fun b hb hb2 => ?_⟩
  rw [lk_app, lk_lt hc hl, Option.none_or] at hb
  have hb : (if c = c then some a else none) = some b := hb
  rw [if_pos rfl] at hb
  injection hb with hb
  subst hb
  exact h hb2
theorem PXm.mono {M M' : pm_M} {X : Nat} {lo lo' cnt cnt' : Int} {T T' : Ty → Int → Prop} {N g : Nat} {acc : List (Nat × (Ty × Bool))} {v : Int} (h : PXm M X lo cnt T N acc g v) (e : ∀ q, X + 1 ≤ q → q ≤ X + 6 → ∀ i : Int, lo ≤ i → i < cnt → M' q i = M q i) (e2 : ∀ i : Int, 0 ≤ i → i < cnt → M' (X + 2) i = M (X + 2) i) (hc : cnt ≤ cnt') (hl : lo' ≤ lo) (hT : ∀ A i, T A i → T' A i) : PXm M' X lo' cnt' T' N acc g v := ⟨h.1, fun a ha h2 => CNd.mono e e2 hc hl hT (Nat.le_refl _) (h.2 a ha h2)⟩
/-- a record, its first sign taken -/
def rcM (tx : Nat → Int) (ln : Nat) (e : List (Nat × Int × Nat)) (p0 : Nat) : Nat → Nat × Option (Ty × Bool)
  | 0 => if chr tx ln (p0 + 1) = 125 then (p0 + 1 + 1, some (mkM p0 [])) else (p0 + 1, none)
  | r + 1 => if chr tx ln (p0 + 1) = 125 then (p0 + 1 + 1, some (mkM p0 [])) else thn (pFs tx ln (fun q => if chr tx ln q = 61 then pM tx ln r e (q + 1) else (q, none)) 125 3 0 (p0 + 1)) (fun l q => (q, some (mkM p0 l)))
theorem PXm.kp {v : Nat} {c1 c2 : Nat} {M M2 : pm_M} {Rf R2 : Nat → Nat → Nat} {cn cn2 : Int} {X R g : Nat} {acc : List (Nat × (Ty × Bool))} {x : Int} (h : PXm M X ((v + 1 : Nat) : Int) (c1 : Int) (fun A i => ndf M Rf cn 24 A i) R acc g x) (k : Kp X ((v + 1 : Nat) : Int) (c1 : Int) M Rf cn (c2 : Int) M2 R2 cn2) : PXm M2 X ((v + 1 : Nat) : Int) (c2 : Int) (fun A i => ndf M2 R2 cn2 24 A i) R acc g x := ⟨h.1, fun a ha h2 => k.cnd (h.2 a ha h2)⟩
set_option maxRecDepth 20000 in
set_option maxHeartbeats 1000000 in
theorem c_recM {R X v p0 dp : Nat} {e : List (Nat × Int × Nat)} {M0 M : pm_M} {Rf : Nat → Nat → Nat} {K L : Nat → Nat} {n s z : Nat} {cn : Int} {Q : Option Value → pm_S → Prop} (IH : ∀ r, R = r + 1 → TmC tx ln d r) (F : FT tx ln X e p0 v ((10 : Int) - 5) M0 Rf K L n s z cn e (p0 + 1) (v + 1) M Rf K L n s z cn (GF M0)) (hdp : dp + R = 24) (he : e.length + R ≤ 24) (h : RmQ X e (R + 1) p0 v (rcM tx ln e p0 R) M0 Rf K L n s z cn Q) : pm_Wc (d + 8 * R + 169) 90 [.ref 38, .int (zI 0), .int (zI (v : Int)), .int (zI (dp : Int))] (zM M, Rf, K, L, n, s) Q := by
  have hX := F.1.2.1
  have le0 := F.le
  -- all parts are read
  have fin : ∀ (acc : List (Nat × (Ty × Bool))) (q c1 : Nat) (M1 : pm_M) (R1 : Nat → Nat → Nat) (K1 L1 : Nat → Nat) (n1 s1 z1 : Nat) (cn1 x y zz : Int) (o9 o10 o11 o12 o13 : Option Value), Srt 0 acc → FT tx ln X e p0 v ((10 : Int) - 5) M0 Rf K L n s z cn e q c1 M1 R1 K1 L1 n1 s1 z1 cn1 (GF M0 ∧ allc acc = true) → PXm M1 X ((v + 1 : Nat) : Int) (c1 : Int) (fun A i => ndf M1 R1 cn1 24 A i) R acc 0 x → PXm M1 X ((v + 1 : Nat) : Int) (c1 : Int) (fun A i => ndf M1 R1 cn1 24 A i) R acc 1 y → PXm M1 X ((v + 1 : Nat) : Int) (c1 : Int) (fun A i => ndf M1 R1 cn1 24 A i) R acc 2 zz → rcM tx ln e p0 R = (q, some (mkM p0 acc)) → pm_Wp none (d + 8 * R + 168) 90 180 [some (.ref 38), some (.int (zI 0)), some (.int (zI (v : Int))), some (.int (zI (dp : Int))), some (.int (zI 125)), some (.int (zI ((msk acc : Nat) : Int))), some (.int (zI x)), some (.int (zI y)), some (.int (zI zz)), o9, o10, o11, o12, o13] [] (zM M1, R1, K1, L1, n1, s1) Q := by
    intro acc q c1 M1 R1 K1 L1 n1 s1 z1 cn1 x y zz o9 o10 o11 o12 o13 hs F1 px py pz hres
    rw [hres] at h
    have hm := msk_bits hs
    refine wp_iload_n d90_180 rfl ?_
    refine wz_if_eq (t := 203) d90_181 (by decide) ⟨by omega, by omega⟩ (fun _ => ?_) (fun hb => absurd (by decide) hb)
    refine wp_aload_n d90_203 rfl ?_
    refine wp_getR (q := X) d90_204 rfl (F1.1.1.1.o (by decide) rfl) (by decide) F1.1.2.2.1 (by rcases hX with e | e <;> omega) ?_
    refine wp_iload_n d90_207 rfl ?_
    refine wp_iload d90_208 rfl ?_
    refine wp_iload d90_210 rfl ?_
    refine wp_iload d90_212 rfl ?_
    refine wp_iload d90_214 rfl ?_
    refine wp_virt (as := [.int (zI zz), .int (zI y), .int (zI x), .int (zI (((msk acc : Nat) : Int))), .int (zI (v : Int))]) (rest := []) d90_216 rfl rfl rfl (F1.1.1.1.tm hX) rfl rfl (Nat.le_of_ble_eq_true rfl) ?_
    refine F1.fil (by omega) ⟨by have := hm.1; omega, by have := hm.1; omega⟩ px.1 py.1 pz.1 (fun M6 F6 kp6 fm6 fx6 fy6 fz6 => ?_)
    refine wp_iload_n d90_219 rfl ?_
    refine wp_ret d90_220 rfl (F6.fin h (fun hg => ?_) Iff.rfl)
    have key : ∀ (g : Nat) (w : Int), g < 3 → PXm M1 X ((v + 1 : Nat) : Int) (c1 : Int) (fun A i => ndf M1 R1 cn1 24 A i) R acc g w → sk 10 (msk acc) g = 1 → CNd M6 X (v : Int) (c1 : Int) (fun A i => ndf M6 R1 cn1 24 A i) R (lkT acc g) w := by
      intro g w hg3 pw hk
      have hk : (if bit (msk acc) g = true then 1 else 0) = 1 := hk
      have hb : bit (msk acc) g = true := by
        by_cases hb : bit (msk acc) g = true
        · exact hb
        · rw [if_neg hb] at hk; cases hk
      have hso := (hm.2 g hg3).mp hb
      unfold lkT
      cases el : lk acc g with
      | none => rw [el] at hso; cases hso
      | some a => exact (kp6.cnd (pw.2 a el (allc_mem hg _ (lk_mem el)))).down (by omega)
    have key2 : ∀ (g : Nat), sk 10 (msk acc) g = 2 → False := by
      intro g hk
      have hk : (if bit (msk acc) g = true then 1 else 0) = 2 := hk
      by_cases hb : bit (msk acc) g = true
      · rw [if_pos hb] at hk; cases hk
      · rw [if_neg hb] at hk; cases hk
    refine CNd.mk ⟨Int.le_refl _, by have := F6.le; omega⟩ (by decide) F6.2.2.2.2.2.1 F6.2.2.2.2.2.2.1 fm6 ⟨fun k => ?_, fun k => (key2 0 k).elim⟩ ⟨fun k => ?_, fun k => (key2 1 k).elim⟩ ⟨fun k => ?_, fun k => (key2 2 k).elim⟩
    · rw [fx6]; exact key 0 x (by decide) px k
    · rw [fy6]; exact key 1 y (by decide) py k
    · rw [fz6]; exact key 2 zz (by decide) pz k
  -- the loop
  have loop : ∀ r, R = r + 1 → ∀ (k i l : Nat) (acc : List (Nat × (Ty × Bool))) (q c1 : Nat) (M1 : pm_M) (R1 : Nat → Nat → Nat) (K1 L1 : Nat → Nat) (n1 s1 z1 : Nat) (cn1 x y zz : Int) (o12 o13 : Option Value), i + k = 3 → 3 ≤ l + k → l ≤ 2 → (∀ b ∈ acc, b.1 < l) → (∀ rest, Srt l rest → Srt 0 (acc ++ rest)) → msk acc < 2 ^ l → FT tx ln X e p0 v ((10 : Int) - 5) M0 Rf K L n s z cn e q c1 M1 R1 K1 L1 n1 s1 z1 cn1 (GF M0 ∧ allc acc = true) → PXm M1 X ((v + 1 : Nat) : Int) (c1 : Int) (fun A i => ndf M1 R1 cn1 24 A i) R acc 0 x → PXm M1 X ((v + 1 : Nat) : Int) (c1 : Int) (fun A i => ndf M1 R1 cn1 24 A i) R acc 1 y → PXm M1 X ((v + 1 : Nat) : Int) (c1 : Int) (fun A i => ndf M1 R1 cn1 24 A i) R acc 2 zz → rcM tx ln e p0 R = thn (pFs tx ln (fun q => if chr tx ln q = 61 then pM tx ln r e (q + 1) else (q, none)) 125 k l q) (fun rest q' => (q', some (mkM p0 (acc ++ rest)))) → pm_Wp none (d + 8 * R + 168) 90 50 [some (.ref 38), some (.int (zI 0)), some (.int (zI (v : Int))), some (.int (zI (dp : Int))), some (.int (zI 125)), some (.int (zI ((msk acc : Nat) : Int))), some (.int (zI x)), some (.int (zI y)), some (.int (zI zz)), some (.int (zI (l : Int))), some (.int (zI 0)), some (.int (zI (i : Int))), o12, o13] [] (zM M1, R1, K1, L1, n1, s1) Q := by
    intro r hR k
    subst hR
    have IHr := IH r rfl
    induction k with
    | zero => intro i l acc q c1 M1 R1 K1 L1 n1 s1 z1 cn1 x y zz o12 o13 hik hlk hl2; omega
    | succ k ih =>
      intro i l acc q c1 M1 R1 K1 L1 n1 s1 z1 cn1 x y zz o12 o13 hik hlk hl2 hal hsr hmk F1 px py pz hres
      rw [pFs_succ] at hres
      refine wp_aload_n d90_50 rfl ?_
      refine wp_iload d90_51 rfl ?_
      refine wp_iload_n d90_53 rfl ?_
      refine wp_virt (as := [.int (zI (dp : Int)), .int (zI (l : Int))]) (rest := []) d90_54 rfl rfl rfl (F1.1.1.1.o (by decide) rfl) rfl rfl (Nat.le_of_ble_eq_true rfl) ?_
      refine F1.takeL (by omega) (by omega) (by omega) (fun hc hd24 M2 F2 kp2 => ?_) (fun hc => ?_)
      rotate_left
      · skip
        rw [if_pos (show chr tx ln q < 120 + (l : Int) ∨ 123 ≤ chr tx ln q by omega)] at hres
        have hres : rcM tx ln e p0 (r + 1) = (q, none) := hres
        rw [hres] at h
        refine wp_istore d90_57 (Nat.le_of_ble_eq_true rfl) rfl ?_
        refine wp_iload d90_59 rfl ?_
        refine wz_iconst d90_61 ?_
        refine wz_icmp_ne (t := 69) d90_62 (by decide) ⟨by omega, by omega⟩ ⟨by omega, by omega⟩ (fun hb => absurd (rfl) hb) (fun _ => ?_)
        refine wz_iconst d90_65 ?_
        refine wp_goto (t := 75) d90_66 (by decide) ?_
        refine wp_istore d90_75 (Nat.le_of_ble_eq_true rfl) rfl ?_
        refine wp_iload d90_77 rfl ?_
        refine wz_iconst d90_79 ?_
        refine wz_icmp_ne (t := 85) d90_80 (by decide) ⟨by omega, by omega⟩ ⟨by omega, by omega⟩ (fun hb => absurd (rfl) hb) (fun _ => ?_)
        refine wz_iconst d90_83 ?_
        exact wp_ret d90_84 rfl (F1.out h)
      rw [if_neg hc, thn_thn] at hres
      obtain ⟨c, hce⟩ : ∃ c, (chr tx ln q - 120).toNat = c := ⟨_, rfl⟩
      have hlc : l ≤ c ∧ c ≤ 2 := by omega
      have hcch : chr tx ln q = 120 + (c : Int) := by omega
      rw [hce] at hres
      rw [hce]
      refine wp_istore d90_57 (Nat.le_of_ble_eq_true rfl) rfl ?_
      refine wp_iload d90_59 rfl ?_
      refine wz_iconst d90_61 ?_
      refine wz_icmp_ne (t := 69) d90_62 (by decide) ⟨by omega, by omega⟩ ⟨by omega, by omega⟩ (fun _ => ?_) (fun hb => absurd hb (by omega))
      refine wp_aload_n d90_69 rfl ?_
      refine wp_iload_n d90_70 rfl ?_
      refine wp_iload_n d90_71 rfl ?_
      refine wp_virt (as := [.int (zI (dp : Int)), .int (zI 0)]) (rest := []) d90_72 rfl rfl rfl (F2.1.1.1.o (by decide) rfl) rfl rfl (Nat.le_of_ble_eq_true rfl) ?_
      refine F2.prt IHr (by omega) (by omega) (by omega) (fun q' c3 M3 R3 K3 L3 n3 s3 z3 cn3 hpt F3 => ?_) (fun q' a c3 i3 M3 R3 K3 L3 n3 s3 z3 cn3 hpt F3 kp3 rg3 nd3 => ?_)
      · skip
        rw [thn_none hpt] at hres
        rw [hres] at h
        refine wp_istore d90_75 (Nat.le_of_ble_eq_true rfl) rfl ?_
        refine wp_iload d90_77 rfl ?_
        refine wz_iconst d90_79 ?_
        refine wz_icmp_ne (t := 85) d90_80 (by decide) ⟨by omega, by omega⟩ ⟨by omega, by omega⟩ (fun hb => absurd (rfl) hb) (fun _ => ?_)
        refine wz_iconst d90_83 ?_
        exact wp_ret d90_84 rfl (F3.out h)
      rw [thn_some hpt] at hres
      have lz3 := F3.le
      have G3 := F3.gg (G' := GF M0 ∧ allc (acc ++ [(c, a)]) = true) (by rw [allc_app, show allc [(c, a)] = (a.2 && true) from rfl, Bool.and_true, Bool.and_eq_true, and_assoc])
      have px3 := (px.kp kp2).kp kp3
      have py3 := (py.kp kp2).kp kp3
      have pz3 := (pz.kp kp2).kp kp3
      have hmc : msk acc < 2 ^ c := Nat.lt_of_lt_of_le hmk (Nat.pow_le_pow_right (by decide) hlc.1)
      have hm8 : msk acc < 8 := Nat.lt_of_lt_of_le hmk (Nat.le_trans (Nat.pow_le_pow_right (by decide) hl2) (by decide))
      have hal3 : ∀ b ∈ acc ++ [(c, a)], b.1 < c + 1 := by
        intro b hb
        rcases List.mem_append.mp hb with hb | hb
        · have := hal b hb; omega
        · rw [List.mem_singleton] at hb; rw [hb]; exact Nat.lt_succ_self c
      have hsr3 : ∀ rest, Srt (c + 1) rest → Srt 0 ((acc ++ [(c, a)]) ++ rest) := by
        intro rest hr
        rw [List.append_assoc]
        exact hsr _ ⟨hlc.1, by show c < 3; omega, hr⟩
      have hs3 : Srt 0 (acc ++ [(c, a)]) := by have := hsr3 [] trivial; rw [List.append_nil] at this; exact this
      have hmk3 : msk (acc ++ [(c, a)]) = msk acc + 2 ^ c := by rw [msk_app]; rfl
      have ri3 : R32 i3 := ⟨by omega, by omega⟩
      -- behind the part
      have next : ∀ (x' y' z' : Int) (o12 o13 : Option Value), PXm M3 X ((v + 1 : Nat) : Int) (c3 : Int) (fun A i => ndf M3 R3 cn3 24 A i) (r + 1) (acc ++ [(c, a)]) 0 x' → PXm M3 X ((v + 1 : Nat) : Int) (c3 : Int) (fun A i => ndf M3 R3 cn3 24 A i) (r + 1) (acc ++ [(c, a)]) 1 y' → PXm M3 X ((v + 1 : Nat) : Int) (c3 : Int) (fun A i => ndf M3 R3 cn3 24 A i) (r + 1) (acc ++ [(c, a)]) 2 z' → pm_Wp none (d + 8 * (r + 1) + 168) 90 144 [some (.ref 38), some (.int (zI 0)), some (.int (zI (v : Int))), some (.int (zI (dp : Int))), some (.int (zI 125)), some (.int (zI ((msk (acc ++ [(c, a)]) : Nat) : Int))), some (.int (zI x')), some (.int (zI y')), some (.int (zI z')), some (.int (zI ((c + 1 : Nat) : Int))), some (.int (zI 0)), some (.int (zI (i : Int))), o12, o13] [] (zM M3, R3, K3, L3, n3, s3) Q := by
        intro x' y' z' o12 o13 px' py' pz'
        refine wp_aload_n d90_144 rfl ?_
        refine wp_iload d90_145 rfl ?_
        refine wp_virt (as := [.int (zI 125)]) (rest := []) d90_147 rfl rfl rfl (F3.1.1.1.o (by decide) rfl) rfl rfl (Nat.le_of_ble_eq_true rfl) ?_
        refine G3.take (by omega) (by decide) (by decide) (fun hd1 M4 F4 kp4 => ?_) (fun hd1 => ?_)
        · skip
          rw [if_pos hd1] at hres
          have hres : rcM tx ln e p0 (r + 1) = (q' + 1, some (mkM p0 (acc ++ [(c, a)]))) := hres
          have exit : ∀ (o9 o10 o11 o12 o13 : Option Value), pm_Wp none (d + 8 * (r + 1) + 168) 90 180 [some (.ref 38), some (.int (zI 0)), some (.int (zI (v : Int))), some (.int (zI (dp : Int))), some (.int (zI 125)), some (.int (zI ((msk (acc ++ [(c, a)]) : Nat) : Int))), some (.int (zI x')), some (.int (zI y')), some (.int (zI z')), o9, o10, o11, o12, o13] [] (zM M4, R3, K3, L3, n3, s3) Q := fun o9 o10 o11 o12 o13 => fin (acc ++ [(c, a)]) (q' + 1) c3 M4 R3 K3 L3 n3 s3 z3 cn3 x' y' z' o9 o10 o11 o12 o13 hs3 F4 (px'.kp kp4) (py'.kp kp4) (pz'.kp kp4) hres
          refine wp_istore d90_150 (Nat.le_of_ble_eq_true rfl) rfl ?_
          refine wp_iload d90_152 rfl ?_
          refine wz_if_ne (t := 174) d90_154 (by decide) ⟨by omega, by omega⟩ (fun _ => ?_) (fun hb => absurd hb (by decide))
          refine wz_iinc d90_174 rfl rfl ?_
          refine wp_goto (t := 39) d90_177 (by decide) ?_
          refine wp_iload d90_39 rfl ?_
          refine wz_iconst d90_41 ?_
          refine wz_icmp_ge (t := 180) d90_42 (by decide) ⟨by omega, by omega⟩ ⟨by omega, by omega⟩ (fun hi3 => ?_) (fun hi3 => ?_)
          · skip
            exact exit _ _ _ _ _
          · skip
            refine wp_iload d90_45 rfl ?_
            refine wz_if_ne (t := 180) d90_47 (by decide) ⟨by omega, by omega⟩ (fun _ => ?_) (fun hb => absurd hb (by decide))
            exact exit _ _ _ _ _
        · skip
          rw [if_neg hd1] at hres
          refine wp_istore d90_150 (Nat.le_of_ble_eq_true rfl) rfl ?_
          refine wp_iload d90_152 rfl ?_
          refine wz_if_ne (t := 174) d90_154 (by decide) ⟨by omega, by omega⟩ (fun hb => absurd (by decide) hb) (fun _ => ?_)
          refine wp_iload d90_157 rfl ?_
          refine wz_iconst d90_159 ?_
          have fail : rcM tx ln e p0 (r + 1) = (q', none) → pm_Wp none (d + 8 * (r + 1) + 168) 90 172 [some (.ref 38), some (.int (zI 0)), some (.int (zI (v : Int))), some (.int (zI (dp : Int))), some (.int (zI 125)), some (.int (zI ((msk (acc ++ [(c, a)]) : Nat) : Int))), some (.int (zI x')), some (.int (zI y')), some (.int (zI z')), some (.int (zI ((c + 1 : Nat) : Int))), some (.int (zI 0)), some (.int (zI (i : Int))), o12, o13] [] (zM M3, R3, K3, L3, n3, s3) Q := by
            intro hf
            rw [hf] at h
            refine wz_iconst d90_172 ?_
            exact wp_ret d90_173 rfl (G3.out h)
          refine wz_icmp_ge (t := 172) d90_160 (by decide) ⟨by omega, by omega⟩ ⟨by omega, by omega⟩ (fun hl3 => ?_) (fun hl3 => ?_)
          · skip
            rw [if_pos (Or.inl (by omega))] at hres
            exact fail hres
          · skip
            refine wp_aload_n d90_163 rfl ?_
            refine wz_bipush d90_164 (by decide) ?_
            refine wp_virt (as := [.int (zI 44)]) (rest := []) d90_166 rfl rfl rfl (F3.1.1.1.o (by decide) rfl) rfl rfl (Nat.le_of_ble_eq_true rfl) ?_
            refine G3.take (by omega) (by decide) (by decide) (fun hd2 M5 F5 kp5 => ?_) (fun hd2 => ?_)
            rotate_left
            · skip
              refine wz_if_ne (t := 174) d90_169 (by decide) ⟨by omega, by omega⟩ (fun hb => absurd (by decide) hb) (fun _ => ?_)
              rw [if_pos (Or.inr hd2)] at hres
              exact fail hres
            rw [if_neg (show ¬ (chr tx ln q = 122 ∨ chr tx ln q' ≠ 44) from fun x => x.elim (fun y => by omega) (fun y => y hd2)), thn_thn] at hres
            refine wz_if_ne (t := 174) d90_169 (by decide) ⟨by omega, by omega⟩ (fun _ => ?_) (fun hb => absurd hb (by decide))
            refine wz_iinc d90_174 rfl rfl ?_
            refine wp_goto (t := 39) d90_177 (by decide) ?_
            refine wp_iload d90_39 rfl ?_
            refine wz_iconst d90_41 ?_
            refine wz_icmp_ge (t := 180) d90_42 (by decide) ⟨by omega, by omega⟩ ⟨by omega, by omega⟩ (fun hb => absurd hb (by omega)) (fun _ => ?_)
            refine wp_iload d90_45 rfl ?_
            refine wz_if_ne (t := 180) d90_47 (by decide) ⟨by omega, by omega⟩ (fun hb => absurd (by decide) hb) (fun _ => ?_)
            rw [show (i : Int) + 1 = ((i + 1 : Nat) : Int) by omega]
            refine ih (i + 1) (c + 1) (acc ++ [(c, a)]) (q' + 1) c3 M5 R3 K3 L3 n3 s3 z3 cn3 x' y' z' _ _ (by omega) (by omega) (by omega) hal3 hsr3 (by rw [hmk3, Nat.pow_succ]; omega) F5 (px'.kp kp5) (py'.kp kp5) (pz'.kp kp5) ?_
            rw [hres]
            congr 1
            funext rest q2
            show (q2, some (mkM p0 (acc ++ ((c, a) :: rest)))) = (q2, some (mkM p0 ((acc ++ [(c, a)]) ++ rest)))
            rw [List.append_assoc]
            rfl
      refine wp_istore d90_75 (Nat.le_of_ble_eq_true rfl) rfl ?_
      refine wp_iload d90_77 rfl ?_
      refine wz_iconst d90_79 ?_
      refine wz_icmp_ne (t := 85) d90_80 (by decide) ⟨by omega, by omega⟩ ⟨by omega, by omega⟩ (fun _ => ?_) (fun hb => absurd hb (by omega))
      refine wp_iload d90_85 rfl ?_
      refine wz_iconst d90_87 ?_
      refine wp_iload d90_88 rfl ?_
      refine wz_ishl d90_90 (by omega) (by omega) (by omega) (by omega) ?_
      refine wz_ior d90_91 (by first | omega | exact Int.natCast_nonneg _) (by first | omega | exact Int.natCast_nonneg _) ?_
      have em : (((((msk acc : Nat) : Int) : Int).toNat ||| ((((1 : Int).toNat * 2 ^ ((c : Int) : Int).toNat : Nat) : Int) : Int).toNat : Nat) : Int) = ((msk (acc ++ [(c, a)]) : Nat) : Int) := by
        rw [hmk3, ← or_pow c (by omega) (msk acc) hm8 hmc, Int.toNat_natCast, Int.toNat_natCast, Int.toNat_natCast]
        show (((msk acc ||| (1 * 2 ^ c) : Nat)) : Int) = _
        rw [Nat.one_mul]
      rw [em]
      refine wp_istore d90_92 (Nat.le_of_ble_eq_true rfl) rfl ?_
      rcases (show c = 0 ∨ c = 1 ∨ c = 2 by omega) with rfl | rfl | rfl
      · skip
        refine wp_iload d90_94 rfl ?_
        refine wz_if_ne (t := 104) d90_96 (by decide) ⟨by omega, by omega⟩ (fun hb => absurd (by omega) hb) (fun _ => ?_)
        refine wp_iload d90_99 rfl ?_
        refine wp_goto (t := 106) d90_101 (by decide) ?_
        refine wp_istore d90_106 (Nat.le_of_ble_eq_true rfl) rfl ?_
        refine wp_iload d90_108 rfl ?_
        refine wz_iconst d90_110 ?_
        refine wz_icmp_ne (t := 119) d90_111 (by decide) ⟨by omega, by omega⟩ ⟨by omega, by omega⟩ (fun _ => ?_) (fun hb => absurd hb (by omega))
        refine wp_iload d90_119 rfl ?_
        refine wp_istore d90_121 (Nat.le_of_ble_eq_true rfl) rfl ?_
        refine wp_iload d90_123 rfl ?_
        refine wz_iconst d90_125 ?_
        refine wz_icmp_ne (t := 134) d90_126 (by decide) ⟨by omega, by omega⟩ ⟨by omega, by omega⟩ (fun _ => ?_) (fun hb => absurd hb (by omega))
        refine wp_iload d90_134 rfl ?_
        refine wp_istore d90_136 (Nat.le_of_ble_eq_true rfl) rfl ?_
        refine wp_iload d90_138 rfl ?_
        refine wz_iconst d90_140 ?_
        refine wz_iadd d90_141 ?_
        refine wp_istore d90_142 (Nat.le_of_ble_eq_true rfl) rfl ?_
        rw [show ((0 : Nat) : Int) + 1 = ((0 + 1 : Nat) : Int) by omega]
        exact next i3 y zz _ _ (PXm.put hal hlc.1 ri3 nd3) (py3.skip (by decide)) (pz3.skip (by decide))
      · skip
        refine wp_iload d90_94 rfl ?_
        refine wz_if_ne (t := 104) d90_96 (by decide) ⟨by omega, by omega⟩ (fun _ => ?_) (fun hb => absurd hb (by omega))
        refine wp_iload d90_104 rfl ?_
        refine wp_istore d90_106 (Nat.le_of_ble_eq_true rfl) rfl ?_
        refine wp_iload d90_108 rfl ?_
        refine wz_iconst d90_110 ?_
        refine wz_icmp_ne (t := 119) d90_111 (by decide) ⟨by omega, by omega⟩ ⟨by omega, by omega⟩ (fun hb => absurd (by omega) hb) (fun _ => ?_)
        refine wp_iload d90_114 rfl ?_
        refine wp_goto (t := 121) d90_116 (by decide) ?_
        refine wp_istore d90_121 (Nat.le_of_ble_eq_true rfl) rfl ?_
        refine wp_iload d90_123 rfl ?_
        refine wz_iconst d90_125 ?_
        refine wz_icmp_ne (t := 134) d90_126 (by decide) ⟨by omega, by omega⟩ ⟨by omega, by omega⟩ (fun _ => ?_) (fun hb => absurd hb (by omega))
        refine wp_iload d90_134 rfl ?_
        refine wp_istore d90_136 (Nat.le_of_ble_eq_true rfl) rfl ?_
        refine wp_iload d90_138 rfl ?_
        refine wz_iconst d90_140 ?_
        refine wz_iadd d90_141 ?_
        refine wp_istore d90_142 (Nat.le_of_ble_eq_true rfl) rfl ?_
        rw [show ((1 : Nat) : Int) + 1 = ((1 + 1 : Nat) : Int) by omega]
        exact next x i3 zz _ _ (px3.skip (by decide)) (PXm.put hal hlc.1 ri3 nd3) (pz3.skip (by decide))
      · skip
        refine wp_iload d90_94 rfl ?_
        refine wz_if_ne (t := 104) d90_96 (by decide) ⟨by omega, by omega⟩ (fun _ => ?_) (fun hb => absurd hb (by omega))
        refine wp_iload d90_104 rfl ?_
        refine wp_istore d90_106 (Nat.le_of_ble_eq_true rfl) rfl ?_
        refine wp_iload d90_108 rfl ?_
        refine wz_iconst d90_110 ?_
        refine wz_icmp_ne (t := 119) d90_111 (by decide) ⟨by omega, by omega⟩ ⟨by omega, by omega⟩ (fun _ => ?_) (fun hb => absurd hb (by omega))
        refine wp_iload d90_119 rfl ?_
        refine wp_istore d90_121 (Nat.le_of_ble_eq_true rfl) rfl ?_
        refine wp_iload d90_123 rfl ?_
        refine wz_iconst d90_125 ?_
        refine wz_icmp_ne (t := 134) d90_126 (by decide) ⟨by omega, by omega⟩ ⟨by omega, by omega⟩ (fun hb => absurd (by omega) hb) (fun _ => ?_)
        refine wp_iload d90_129 rfl ?_
        refine wp_goto (t := 136) d90_131 (by decide) ?_
        refine wp_istore d90_136 (Nat.le_of_ble_eq_true rfl) rfl ?_
        refine wp_iload d90_138 rfl ?_
        refine wz_iconst d90_140 ?_
        refine wz_iadd d90_141 ?_
        refine wp_istore d90_142 (Nat.le_of_ble_eq_true rfl) rfl ?_
        rw [show ((2 : Nat) : Int) + 1 = ((2 + 1 : Nat) : Int) by omega]
        exact next x y i3 _ _ (px3.skip (by decide)) (py3.skip (by decide)) (PXm.put hal hlc.1 ri3 nd3)
  refine wc_in (ls0 := [some (.ref 38), some (.int (zI 0)), some (.int (zI (v : Int))), some (.int (zI (dp : Int))), none, none, none, none, none, none, none, none, none, none]) (by decide) (Nat.le_of_ble_eq_true rfl) rfl rfl ?_
  refine wp_iload_n d90_0 rfl ?_
  refine wz_if_eq (t := 9) d90_1 (by decide) ⟨by omega, by omega⟩ (fun _ => ?_) (fun hb => absurd (by decide) hb)
  refine wz_bipush d90_9 (by decide) ?_
  refine wp_istore d90_11 (Nat.le_of_ble_eq_true rfl) rfl ?_
  refine wz_iconst d90_13 ?_
  refine wp_istore d90_14 (Nat.le_of_ble_eq_true rfl) rfl ?_
  refine wz_iconst d90_16 ?_
  refine wp_istore d90_17 (Nat.le_of_ble_eq_true rfl) rfl ?_
  refine wz_iconst d90_19 ?_
  refine wp_istore d90_20 (Nat.le_of_ble_eq_true rfl) rfl ?_
  refine wz_iconst d90_22 ?_
  refine wp_istore d90_23 (Nat.le_of_ble_eq_true rfl) rfl ?_
  refine wz_iconst d90_25 ?_
  refine wp_istore d90_26 (Nat.le_of_ble_eq_true rfl) rfl ?_
  refine wp_aload_n d90_28 rfl ?_
  refine wp_iload d90_29 rfl ?_
  refine wp_virt (as := [.int (zI 125)]) (rest := []) d90_31 rfl rfl rfl (F.1.1.1.o (by decide) rfl) rfl rfl (Nat.le_of_ble_eq_true rfl) ?_
  have px0 : ∀ (M1 : pm_M) (R1 : Nat → Nat → Nat) (g : Nat), PXm M1 X ((v + 1 : Nat) : Int) ((v + 1 : Nat) : Int) (fun A i => ndf M1 R1 cn 24 A i) R [] g 0 := fun M1 R1 g => ⟨⟨by omega, by omega⟩, fun a ha => by cases ha⟩
  have F' := F.gg (G' := GF M0 ∧ allc [] = true) ⟨fun x => ⟨x, rfl⟩, fun x => x.1⟩
  refine F'.take (by omega) (by decide) (by decide) (fun hd1 Ma Fa kpa => ?_) (fun hd1 => ?_)
  · skip
    have hres : rcM tx ln e p0 R = (p0 + 1 + 1, some (mkM p0 [])) := by
      cases R with
      | zero => exact if_pos hd1
      | succ r => exact if_pos hd1
    refine wp_istore d90_34 (Nat.le_of_ble_eq_true rfl) rfl ?_
    refine wz_iconst d90_36 ?_
    refine wp_istore d90_37 (Nat.le_of_ble_eq_true rfl) rfl ?_
    refine wp_iload d90_39 rfl ?_
    refine wz_iconst d90_41 ?_
    refine wz_icmp_ge (t := 180) d90_42 (by decide) ⟨by omega, by omega⟩ ⟨by omega, by omega⟩ (fun hb => absurd hb (by omega)) (fun _ => ?_)
    refine wp_iload d90_45 rfl ?_
    refine wz_if_ne (t := 180) d90_47 (by decide) ⟨by omega, by omega⟩ (fun _ => ?_) (fun hb => absurd hb (by decide))
    exact fin [] (p0 + 1 + 1) (v + 1) Ma Rf K L n s z cn 0 0 0 (some (.int (zI 0))) (some (.int (zI 1))) (some (.int (zI 0))) none none trivial Fa (px0 _ _ 0) (px0 _ _ 1) (px0 _ _ 2) hres
  · skip
    refine wp_istore d90_34 (Nat.le_of_ble_eq_true rfl) rfl ?_
    refine wz_iconst d90_36 ?_
    refine wp_istore d90_37 (Nat.le_of_ble_eq_true rfl) rfl ?_
    refine wp_iload d90_39 rfl ?_
    refine wz_iconst d90_41 ?_
    refine wz_icmp_ge (t := 180) d90_42 (by decide) ⟨by omega, by omega⟩ ⟨by omega, by omega⟩ (fun hb => absurd hb (by omega)) (fun _ => ?_)
    refine wp_iload d90_45 rfl ?_
    refine wz_if_ne (t := 180) d90_47 (by decide) ⟨by omega, by omega⟩ (fun hb => absurd (by decide) hb) (fun _ => ?_)
    cases R with
    | zero =>
      have hres : rcM tx ln e p0 0 = (p0 + 1, none) := if_neg hd1
      rw [hres] at h
      refine wp_aload_n d90_50 rfl ?_
      refine wp_iload d90_51 rfl ?_
      refine wp_iload_n d90_53 rfl ?_
      refine wp_virt (as := [.int (zI (dp : Int)), .int (zI 0)]) (rest := []) d90_54 rfl rfl rfl (F.1.1.1.o (by decide) rfl) rfl rfl (Nat.le_of_ble_eq_true rfl) ?_
      rw [show (0 : Int) = ((0 : Nat) : Int) by rfl]
      refine F.takeL (l := 0) (by omega) (by decide) (by omega) (fun _ h24 => absurd h24 (by omega)) (fun _ => ?_)
      refine wp_istore d90_57 (Nat.le_of_ble_eq_true rfl) rfl ?_
      refine wp_iload d90_59 rfl ?_
      refine wz_iconst d90_61 ?_
      refine wz_icmp_ne (t := 69) d90_62 (by decide) ⟨by omega, by omega⟩ ⟨by omega, by omega⟩ (fun hb => absurd (rfl) hb) (fun _ => ?_)
      refine wz_iconst d90_65 ?_
      refine wp_goto (t := 75) d90_66 (by decide) ?_
      refine wp_istore d90_75 (Nat.le_of_ble_eq_true rfl) rfl ?_
      refine wp_iload d90_77 rfl ?_
      refine wz_iconst d90_79 ?_
      refine wz_icmp_ne (t := 85) d90_80 (by decide) ⟨by omega, by omega⟩ ⟨by omega, by omega⟩ (fun hb => absurd (rfl) hb) (fun _ => ?_)
      refine wz_iconst d90_83 ?_
      exact wp_ret d90_84 rfl (F.out h)
    | succ r =>
      have hres : rcM tx ln e p0 (r + 1) = thn (pFs tx ln (fun q => if chr tx ln q = 61 then pM tx ln r e (q + 1) else (q, none)) 125 3 0 (p0 + 1)) (fun rest q' => (q', some (mkM p0 ([] ++ rest)))) := if_neg hd1
      exact loop r rfl 3 0 0 [] (p0 + 1) (v + 1) M Rf K L n s z cn 0 0 0 none none (by decide) (by decide) (by decide) (fun b hb => by cases hb) (fun rest hr => hr) (by decide) F' (px0 _ _ 0) (px0 _ _ 1) (px0 _ _ 2) hres
end PmC37
