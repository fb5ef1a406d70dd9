/-! THE MODEL: the codes at a node; recordType. -/
theorem xar_rec : ∀ m, m < 8 → xar (tcode 10 m) = (if sk 10 m 0 = 0 then 0 else 1) + (if sk 10 m 1 = 0 then 0 else 1) + (if sk 10 m 2 = 0 then 0 else 1) := by decide
theorem xar_is {k m : Nat} (hk : 5 ≤ k ∧ k ≤ 12) (hm : k = 10 → m < 8) : xar (tcode k m) = (if sk k m 0 = 0 then 0 else 1) + (if sk k m 1 = 0 then 0 else 1) + (if sk k m 2 = 0 then 0 else 1) := by
  by_cases c : k = 10
  · subst c; exact xar_rec m (hm rfl)
  · rcases (show k = 5 ∨ k = 6 ∨ k = 7 ∨ k = 8 ∨ k = 9 ∨ k = 11 ∨ k = 12 by omega) with rfl | rfl | rfl | rfl | rfl | rfl | rfl <;> rfl
theorem MNd.nx {N : pm_M} {a b : Nat} : ∀ {F D : Nat} {sc : List Nat} {t : Ty} {s : Int} {ch : List (Nat × Int × Nat)} {j : Nat}, MNd 0 N a b F t s ch j → TWf F D sc t → NXl 0 N a b j (tfl t) true ∧ prx 1 (tfl t) = true
  | 0, _, _, _, _, _, _, h, _ => h.elim
  | F + 1, D, sc, t, s, ch, j, ⟨⟨m1, m2, m3, m40, m4⟩, m5, m6, m7, m8, m9, m10, m11, m12⟩, ⟨w0, w5, w6, w7, w8, w9, w10, w11, w12⟩ => by
    obtain ⟨kr, shp, nl, -⟩ := w0
    have nil0 : ∀ g, g < 3 → sk (nKd t) (nMk t) g = 0 → tfl (nP t g) = [] := fun g hg e => by rw [nl g hg e]; rfl
    have hx : NXl 0 N a b (j + 1) (tfl (nX t)) true ∧ prx (if sk (nKd t) (nMk t) 0 = 0 then 0 else 1) (tfl (nX t)) = true := by
      rcases sk_any (m := nMk t) (g := 0) kr (by decide) with e | e | ⟨e, e2⟩
      · have : tfl (nX t) = [] := nil0 0 (by decide) e
        rw [this, if_pos e]; exact ⟨rfl, rfl⟩
      · rw [if_neg (by omega)]
        rcases sk_0 e with c | c | c | c | c
        · exact MNd.nx (m7 e) (w7 (Or.inl c)).1
        · exact MNd.nx (m7 e) (w7 (Or.inr c)).1
        · exact MNd.nx (m7 e) (w9 c).1
        · exact MNd.nx (m7 e) ((w10 c.1).2 0 (by decide) c.2)
        · exact MNd.nx (m7 e) (w11 c).2
      · rw [if_neg (by omega)]
        have o : ok D (nX t) = true := by
          rcases e2 with ⟨-, e2 | e2⟩ | ⟨e2, -⟩
          · exact (w6 e2).2.1
          · exact (w8 e2).1
          · cases e2
        rw [tfl_ty o]
        exact ⟨(m8 e).1.nx, prx_pre (m8 e).1.pos (ok_pre _ _ o)⟩
    have hy : NXl 0 N a b (j + 1 + (tfl (nX t)).length) (tfl (nY t)) true ∧ prx (if sk (nKd t) (nMk t) 1 = 0 then 0 else 1) (tfl (nY t)) = true := by
      by_cases k68 : nKd t = 6 ∨ nKd t = 8
      · rw [if_neg (by have := (sk_6 (m := nMk t) k68).2.1; omega)]
        obtain ⟨nm, -, -, c2⟩ := m10 k68
        rcases k68 with e | e
        · exact MNd.nx c2 (w6 e).2.2.2
        · exact MNd.nx c2 (w8 e).2.2
      rcases sk_any (m := nMk t) (g := 1) kr (by decide) with e | e | ⟨e, e2⟩
      · have : tfl (nY t) = [] := nil0 1 (by decide) e
        rw [this, if_pos e]; exact ⟨rfl, rfl⟩
      · rw [if_neg (by omega)]
        rcases sk_1 e with c | c | c | c | c
        · exact absurd (Or.inl c) k68
        · exact absurd (Or.inr c) k68
        · exact MNd.nx (m9 e k68) (w7 (Or.inl c)).2
        · exact MNd.nx (m9 e k68) (w7 (Or.inr c)).2
        · exact MNd.nx (m9 e k68) ((w10 c.1).2 1 (by decide) c.2)
      · rw [if_neg (by omega)]
        have o : ok D (nY t) = true := by
          rcases e2 with ⟨e2, -⟩ | ⟨-, e2⟩
          · cases e2
          · exact (w9 e2).2.1
        rw [tfl_ty o]
        exact ⟨(m11 e).1.nx, prx_pre (m11 e).1.pos (ok_pre _ _ o)⟩
    have hz : NXl 0 N a b (j + 1 + (tfl (nX t)).length + (tfl (nY t)).length) (tfl (nZ t)) true ∧ prx (if sk (nKd t) (nMk t) 2 = 0 then 0 else 1) (tfl (nZ t)) = true := by
      rcases sk_any (m := nMk t) (g := 2) kr (by decide) with e | e | ⟨e, e2⟩
      · have : tfl (nZ t) = [] := nil0 2 (by decide) e
        rw [this, if_pos e]; exact ⟨rfl, rfl⟩
      · rw [if_neg (by omega)]
        have c := sk_2 e
        exact MNd.nx (m12 e) ((w10 c.1).2 2 (by decide) c.2)
      · rcases e2 with ⟨e2, -⟩ | ⟨e2, -⟩ <;> cases e2
    have hd0 : NX 0 N a b (j : Int) (tcode (nKd t) (nMk t)) true := by
      unfold tcode
      by_cases k10 : nKd t = 10
      · rw [if_pos k10]
        have := (w10 k10).1
        have e60 := m6 (by omega)
        exact Or.inr (Or.inr (Or.inr ⟨rfl, by rw [m2, k10]; rfl, by rw [e60]; omega, by omega, by omega⟩))
      · rw [if_neg k10]
        by_cases k5 : nKd t = 5
        · rw [k5]
          obtain ⟨q1, q2⟩ := m5 k5
          exact Or.inr (Or.inl ⟨rfl, by rw [m2, k5]; rfl, q1, ch, by rw [m40]; exact m4, by rw [q2]; rfl⟩)
        · exact Or.inr (Or.inr (Or.inl ⟨rfl, by rw [m2]; omega, by omega⟩))
    rw [tfl_is shp]
    refine ⟨⟨true, true, hd0, ?_, rfl⟩, ?_⟩
    · have q := hy.1.app hz.1
      have q2 := hx.1.app q
      exact q2
    · show prx (0 + xar (tcode (nKd t) (nMk t))) _ = true
      rw [Nat.zero_add, xar_is kr (fun e => (w10 e).1), Nat.add_assoc]
      exact prx_app hx.2 (prx_app hy.2 hz.2)
theorem ND.nx {N : pm_M} {a b : Nat} {T : Ty} {F : Nat} {t : Ty} {Γ : List Ty} {Δ : List (Nat × Ty × Nat)} {j : Nat} (h : ND N a b T F t Γ Δ j) : NXl 0 N a b j (tfl t) true ∧ prx 1 (tfl t) = true := by
  obtain ⟨s, ch, md, -⟩ := h.md
  exact md.nx h.tw
/-- parts of a record, one behind another, with their types -/
def PLs (N : pm_M) (a b : Nat) : Nat → List (Ty × Ty) → Prop
  | _, [] => True
  | p, x :: r => (NXl 0 N a b p (tfl x.1) true ∧ prx 1 (tfl x.1) = true ∧ p + (tfl x.1).length ≤ a ∧ 1 ≤ (tfl x.1).length ∧ Row N (4 + (p : Int)) 0 (flat x.2) ∧ pre 1 (flat x.2) = true ∧ (flat x.2).length ≤ 16) ∧ PLs N a b (p + (tfl x.1).length) r
def pll : List (Ty × Ty) → Nat
  | [] => 0
  | x :: r => (tfl x.1).length + pll r
def plc : List (Ty × Ty) → List Int
  | [] => []
  | x :: r => flat x.2 ++ plc r
theorem PLs.mv {N N' : pm_M} {a b : Nat} {i : Nat} (hn : ∀ (q : Nat) (k : Int), q ≠ 73 → N' q k = N q k) (hr : ∀ k : Int, ¬ (17 * (4 + (i : Int)) ≤ k ∧ k < 17 * (4 + (i : Int)) + 17) → N' 73 k = N 73 k) : ∀ {ps : List (Ty × Ty)} {p : Nat}, i < p → PLs N a b p ps → PLs N' a b p ps
  | [], _, _, _ => trivial
  | x :: r, p, hp, ⟨⟨g1, g2, g3, g4, g5, g6, g7⟩, g8⟩ => ⟨⟨g1.kpg (fun q i q1 q2 _ _ => hn q i (by omega)) (fun q i q1 q2 _ _ => hn q i (by omega)) g3, g2, g3, g4, Row.same (fun k k0 k1 => hr _ (by omega)) g5, g6, g7⟩, PLs.mv hn hr (by omega) g8⟩
section PmF7
variable {d : Nat} {Q : Option Value → pm_S → Prop} {N : pm_M} {Rf : Nat → Nat → Nat} {K L : Nat → Nat} {n s0 : Nat} {a b : Nat}
theorem m_recordType {i : Nat} {m : Nat} {ps : List (Ty × Ty)} (hG : pm_G Rf K L n) (hM : ∀ p i, R32 (N p i)) (a60 : a ≤ 60) (b60 : b ≤ 60) (ia : i < a) (l3 : ps.length ≤ 3) (hb : ∀ Q' : Option Value → pm_S → Prop, Q' (some (.int (zI ((i + 1 + pll ps : Nat) : Int)))) (zM N, Rf, K, L, n, s0) → pm_Wc (d + 2) 145 [.ref 56, .int (zI (i : Int))] (zM N, Rf, K, L, n, s0) Q') (hm : N 60 (i : Int) = (m : Int)) (m8 : m < 8) (hp : PLs N a b (i + 1) ps) (h1 : 1 + (plc ps).length ≤ 16 → ∀ N' : pm_M, (∀ p i, R32 (N' p i)) → (∀ (p : Nat) (k : Int), ¬ (p = 73 ∧ 17 * (4 + (i : Int)) ≤ k ∧ k < 17 * (4 + (i : Int)) + 17) → N' p k = N p k) → Row N' (4 + (i : Int)) 0 ((8 + (m : Int)) :: plc ps) → Q (some (.int (zI 1))) (zM N', Rf, K, L, n, s0)) (h0 : ¬ 1 + (plc ps).length ≤ 16 → Q (some (.int (zI 0))) (zM N, Rf, K, L, n, s0)) : pm_Wc (d + 4) 191 [.ref 56, .int (zI (i : Int))] (zM N, Rf, K, L, n, s0) Q := by
  have le60 : ∀ (ps : List (Ty × Ty)) (p : Nat), PLs N a b p ps → p ≤ a → p + pll ps ≤ a := by
    intro ps
    induction ps with
    | nil => intro p _ h; exact h
    | cons x r ih =>
      intro p hx h
      have := ih _ hx.2 hx.1.2.2.1
      show p + ((tfl x.1).length + pll r) ≤ a
      omega
  have pcl : ∀ (ps : List (Ty × Ty)) (p : Nat), PLs N a b p ps → (plc ps).length ≤ 16 * ps.length := by
    intro ps
    induction ps with
    | nil => intro p _; exact Nat.le_refl _
    | cons x r ih =>
      intro p hx
      have := ih _ hx.2
      have := hx.1.2.2.2.2.2.2
      show (flat x.2 ++ plc r).length ≤ _
      rw [List.length_append, List.length_cons]
      omega
  have e60 := le60 ps (i + 1) hp (by omega)
  have c48 := pcl ps (i + 1) hp
  -- the second loop
  have loop2 : ∀ (r : List (Ty × Ty)) (dn : List Int) (p : Nat) (N' : pm_M) (o2 : Option Value), i < p → p + pll r = i + 1 + pll ps → dn ++ plc r = plc ps → 1 + (plc ps).length ≤ 16 → PLs N a b p r → (∀ p i, R32 (N' p i)) → (∀ (p : Nat) (k : Int), ¬ (p = 73 ∧ 17 * (4 + (i : Int)) ≤ k ∧ k < 17 * (4 + (i : Int)) + 17) → N' p k = N p k) → Row N' (4 + (i : Int)) 0 ((8 + (m : Int)) :: dn) → pm_Wp none (d + 3) 191 78 [some (.ref 56), some (.int (zI (i : Int))), o2, some (.int (zI ((i + 1 + pll ps : Nat) : Int))), some (.int (zI (1 + (dn.length : Int)))), some (.int (zI (p : Int)))] [] (zM N', Rf, K, L, n, s0) Q := by
    intro r
    induction r with
    | nil =>
      intro dn p N' o2 ip ep ed l16 pl hM' fr row
      have ep : p = i + 1 + pll ps := ep
      have ed : dn = plc ps := by rw [← ed]; exact (List.append_nil dn).symm
      refine wp_iload d191_78 rfl ?_
      refine wp_iload_n d191_80 rfl ?_
      refine wz_icmp_ge (t := 123) d191_81 (by decide) ⟨by omega, by omega⟩ ⟨by omega, by omega⟩ (fun _ => ?_) (fun hb => absurd (by omega) hb)
      refine wz_iconst d191_123 ?_
      exact wp_ret d191_124 rfl (h1 l16 N' hM' fr (by rw [← ed]; exact row))
    | cons x r ih =>
      intro dn p N' o2 ip ep ed l16 pl hM' fr row
      have pl' : PLs N' a b p (x :: r) := pl.mv (fun q k hq => fr q k (fun e => hq e.1)) (fun k hk => fr 73 k (fun e => hk e.2)) ip
      obtain ⟨⟨g1, g2, g3, g4, g5, g6, g7⟩, -⟩ := pl'
      have ep : p + ((tfl x.1).length + pll r) = i + 1 + pll ps := ep
      have ed' : dn ++ (flat x.2 ++ plc r) = plc ps := ed
      have ll : dn.length + ((flat x.2).length + (plc r).length) = (plc ps).length := by rw [← ed', List.length_append, List.length_append]
      refine wp_iload d191_78 rfl ?_
      refine wp_iload_n d191_80 rfl ?_
      refine wz_icmp_ge (t := 123) d191_81 (by decide) ⟨by omega, by omega⟩ ⟨by omega, by omega⟩ (fun hb => absurd hb (by omega)) (fun _ => ?_)
      refine wp_aload_n d191_84 rfl ?_
      refine wz_iconst d191_85 ?_
      refine wp_iload d191_86 rfl ?_
      refine wz_iadd d191_88 ?_
      refine wz_iconst d191_89 ?_
      refine wz_iconst d191_90 ?_
      refine wp_iload_n d191_91 rfl ?_
      refine wz_iadd d191_92 ?_
      refine wp_iload d191_93 rfl ?_
      refine wp_virt (as := [.int (zI (1 + (dn.length : Int))), .int (zI (4 + (i : Int))), .int (zI 0), .int (zI (4 + (p : Int)))]) (rest := []) d191_95 rfl rfl rfl (hG.o (by decide) rfl) rfl rfl (Nat.le_of_ble_eq_true rfl) ?_
      refine m_copy (d := d) (l := flat x.2) hG hM' (by omega) (by omega) (by omega) (by omega) (by omega) (by omega) (by omega) (by omega) (by omega) g5 g6 ?_
      have R1 := mput_R32 (p := 73) (b := 17 * (4 + (i : Int)) + (1 + (dn.length : Int))) hM' (g5.R32 hM')
      have fr1 : ∀ (p : Nat) (k : Int), ¬ (p = 73 ∧ 17 * (4 + (i : Int)) ≤ k ∧ k < 17 * (4 + (i : Int)) + 17) → (mput N' 73 (17 * (4 + (i : Int)) + (1 + (dn.length : Int))) (flat x.2)) p k = N p k := by
        intro p' k hk
        rw [← fr p' k hk]
        unfold mput
        rw [if_neg (fun e => hk ⟨e.1, by omega⟩)]
      have row1 : Row (mput N' 73 (17 * (4 + (i : Int)) + (1 + (dn.length : Int))) (flat x.2)) (4 + (i : Int)) 0 ((8 + (m : Int)) :: (dn ++ flat x.2)) := by
        refine ⟨(mput_o _ _ _ _ (by omega)).trans row.1, Row.app.mpr ⟨Row.same (fun k k0 k1 => mput_o _ _ _ _ (by omega)) row.2, ?_⟩⟩
        rw [show (0 : Int) + 1 + (dn.length : Int) = 1 + (dn.length : Int) by omega]
        exact mput_row (flat x.2) N' (4 + (i : Int)) (1 + (dn.length : Int))
      have pl1 : PLs (mput N' 73 (17 * (4 + (i : Int)) + (1 + (dn.length : Int))) (flat x.2)) a b p (x :: r) := pl.mv (fun q k hq => fr1 q k (fun e => hq e.1)) (fun k hk => fr1 73 k (fun e => hk e.2)) ip
      obtain ⟨⟨j1, j2, j3, j4, j5, j6, j7⟩, -⟩ := pl1
      refine wp_iload d191_98 rfl ?_
      refine wp_aload_n d191_100 rfl ?_
      refine wz_iconst d191_101 ?_
      refine wp_iload d191_102 rfl ?_
      refine wz_iadd d191_104 ?_
      refine wz_iconst d191_105 ?_
      refine wp_virt (as := [.int (zI 0), .int (zI (4 + (p : Int)))]) (rest := [.int (zI (1 + (dn.length : Int)))]) d191_106 rfl rfl rfl (hG.o (by decide) rfl) rfl rfl (Nat.le_of_ble_eq_true rfl) ?_
      refine wc_deep (show d + 1 + 2 ≤ d + 3 by omega) ?_
      refine m_end (l := flat x.2) hG R1 (by omega) (by omega) (by omega) (by omega) j5 j6 ?_
      refine wz_iadd d191_109 ?_
      refine wp_istore d191_110 (Nat.le_of_ble_eq_true rfl) rfl ?_
      refine wp_aload_n d191_112 rfl ?_
      refine wp_iload d191_113 rfl ?_
      refine wp_virt (as := [.int (zI (p : Int))]) (rest := []) d191_115 rfl rfl rfl (hG.o (by decide) rfl) rfl rfl (Nat.le_of_ble_eq_true rfl) ?_
      refine wc_deep (show d + 1 + 2 ≤ d + 3 by omega) ?_
      refine m_behind (lo := 0) (nd := a) (sc := b) hG (by omega) j1 j2 ?_
      refine wp_istore d191_118 (Nat.le_of_ble_eq_true rfl) rfl ?_
      refine wp_goto (t := 78) d191_120 (by decide) ?_
      have q := ih (dn ++ flat x.2) (p + (tfl x.1).length) (mput N' 73 (17 * (4 + (i : Int)) + (1 + (dn.length : Int))) (flat x.2)) o2 (by omega) (by omega) (by rw [List.append_assoc]; exact ed') l16 pl.2 R1 fr1 row1
      rw [List.length_append, show (1 : Int) + ((dn.length + (flat x.2).length : Nat) : Int) = 1 + (dn.length : Int) + (0 + ((flat x.2).length : Int)) by omega] at q
      exact q
  -- the first loop
  have loop1 : ∀ (r : List (Ty × Ty)) (dn : List Int) (p : Nat), p + pll r = i + 1 + pll ps → dn ++ plc r = plc ps → PLs N a b p r → pm_Wp none (d + 3) 191 13 [some (.ref 56), some (.int (zI (i : Int))), some (.int (zI (1 + (dn.length : Int)))), some (.int (zI ((i + 1 + pll ps : Nat) : Int))), some (.int (zI (p : Int))), none] [] (zM N, Rf, K, L, n, s0) Q := by
    intro r
    induction r with
    | nil =>
      intro dn p ep ed pl
      have ep : p = i + 1 + pll ps := ep
      have ed : dn = plc ps := by rw [← ed]; exact (List.append_nil dn).symm
      have dl : dn.length ≤ 48 := by rw [ed]; omega
      refine wp_iload d191_13 rfl ?_
      refine wp_iload_n d191_15 rfl ?_
      refine wz_icmp_ge (t := 42) d191_16 (by decide) ⟨by omega, by omega⟩ ⟨by omega, by omega⟩ (fun _ => ?_) (fun hb => absurd (by omega) hb)
      refine wp_iload_n d191_42 rfl ?_
      refine wz_bipush d191_43 (by decide) ?_
      refine wz_icmp_le (t := 50) d191_45 (by decide) ⟨by omega, by omega⟩ ⟨by omega, by omega⟩ (fun hz => ?_) (fun hz => ?_)
      · skip
        refine wp_aload_n d191_50 rfl ?_
        refine wp_getR (q := 73) d191_51 rfl (hG.o (by decide) rfl) (by decide) (hG.r (by decide +kernel)) (by decide) ?_
        refine wz_bipush d191_54 (by decide) ?_
        refine wz_iconst d191_56 ?_
        refine wp_iload_n d191_57 rfl ?_
        refine wz_iadd d191_58 ?_
        refine wz_imul d191_59 ?_
        refine wz_bipush d191_60 (by decide) ?_
        refine wp_aload_n d191_62 rfl ?_
        refine wp_getR (q := 60) d191_63 rfl (hG.o (by decide) rfl) (by decide) (hG.r (by decide +kernel)) (by decide) ?_
        refine wp_iload_n d191_66 rfl ?_
        refine wz_iald (z := 128) (v := (m : Int)) d191_67 (hG.a (by decide) rfl rfl) (by omega) (by omega) (by decide) (hm) ?_
        refine wz_iadd d191_68 ?_
        refine wz_iast (z := 18700) d191_69 (hG.a (by decide) rfl rfl) (by omega) (by omega) (by decide) ?_
        refine wz_iconst d191_70 ?_
        refine wp_istore d191_71 (Nat.le_of_ble_eq_true rfl) rfl ?_
        refine wp_iload_n d191_73 rfl ?_
        refine wz_iconst d191_74 ?_
        refine wz_iadd d191_75 ?_
        refine wp_istore d191_76 (Nat.le_of_ble_eq_true rfl) rfl ?_
        have l16 : 1 + (plc ps).length ≤ 16 := by rw [← ed]; omega
        refine loop2 ps [] (i + 1) _ _ (by omega) rfl rfl l16 hp (mset_R32 hM ⟨by omega, by omega⟩) (fun p' k hk => ?_) ⟨by rw [Int.add_zero, mset_s], trivial⟩
        unfold mset
        rw [if_neg (fun e => hk ⟨e.1, by omega⟩)]
      · skip
        refine wz_iconst d191_48 ?_
        exact wp_ret d191_49 rfl (h0 (by rw [← ed]; omega))
    | cons x r ih =>
      intro dn p ep ed pl
      obtain ⟨⟨g1, g2, g3, g4, g5, g6, g7⟩, -⟩ := id pl
      have ep : p + ((tfl x.1).length + pll r) = i + 1 + pll ps := ep
      have ed' : dn ++ (flat x.2 ++ plc r) = plc ps := ed
      have ll : dn.length + ((flat x.2).length + (plc r).length) = (plc ps).length := by rw [← ed', List.length_append, List.length_append]
      refine wp_iload d191_13 rfl ?_
      refine wp_iload_n d191_15 rfl ?_
      refine wz_icmp_ge (t := 42) d191_16 (by decide) ⟨by omega, by omega⟩ ⟨by omega, by omega⟩ (fun hb => absurd hb (by omega)) (fun _ => ?_)
      refine wp_iload_n d191_19 rfl ?_
      refine wp_aload_n d191_20 rfl ?_
      refine wz_iconst d191_21 ?_
      refine wp_iload d191_22 rfl ?_
      refine wz_iadd d191_24 ?_
      refine wz_iconst d191_25 ?_
      refine wp_virt (as := [.int (zI 0), .int (zI (4 + (p : Int)))]) (rest := [.int (zI (1 + (dn.length : Int)))]) d191_26 rfl rfl rfl (hG.o (by decide) rfl) rfl rfl (Nat.le_of_ble_eq_true rfl) ?_
      refine wc_deep (show d + 1 + 2 ≤ d + 3 by omega) ?_
      refine m_end (l := flat x.2) hG hM (by omega) (by omega) (by omega) (by omega) g5 g6 ?_
      refine wz_iadd d191_29 ?_
      refine wp_istore_n d191_30 (Nat.le_of_ble_eq_true rfl) rfl ?_
      refine wp_aload_n d191_31 rfl ?_
      refine wp_iload d191_32 rfl ?_
      refine wp_virt (as := [.int (zI (p : Int))]) (rest := []) d191_34 rfl rfl rfl (hG.o (by decide) rfl) rfl rfl (Nat.le_of_ble_eq_true rfl) ?_
      refine wc_deep (show d + 1 + 2 ≤ d + 3 by omega) ?_
      refine m_behind (lo := 0) (nd := a) (sc := b) hG (by omega) g1 g2 ?_
      refine wp_istore d191_37 (Nat.le_of_ble_eq_true rfl) rfl ?_
      refine wp_goto (t := 13) d191_39 (by decide) ?_
      have q := ih (dn ++ flat x.2) (p + (tfl x.1).length) (by omega) (by rw [List.append_assoc]; exact ed') pl.2
      rw [List.length_append, show (1 : Int) + ((dn.length + (flat x.2).length : Nat) : Int) = 1 + (dn.length : Int) + (0 + ((flat x.2).length : Int)) by omega] at q
      exact q
  refine wc_in (ls0 := [some (.ref 56), some (.int (zI (i : Int))), none, none, none, none]) (by decide) (Nat.le_of_ble_eq_true rfl) rfl rfl ?_
  refine wz_iconst d191_0 ?_
  refine wp_istore_n d191_1 (Nat.le_of_ble_eq_true rfl) rfl ?_
  refine wp_aload_n d191_2 rfl ?_
  refine wp_iload_n d191_3 rfl ?_
  refine wp_virt (as := [.int (zI (i : Int))]) (rest := []) d191_4 rfl rfl rfl (hG.o (by decide) rfl) rfl rfl (Nat.le_of_ble_eq_true rfl) ?_
  refine wc_deep (show d + 2 ≤ d + 3 by omega) ?_
  refine hb _ ?_
  refine wp_istore_n d191_7 (Nat.le_of_ble_eq_true rfl) rfl ?_
  refine wp_iload_n d191_8 rfl ?_
  refine wz_iconst d191_9 ?_
  refine wz_iadd d191_10 ?_
  refine wp_istore d191_11 (Nat.le_of_ble_eq_true rfl) rfl ?_
  exact loop1 ps [] (i + 1) rfl rfl hp
end PmF7
