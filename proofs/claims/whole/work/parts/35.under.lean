/-! THE MODEL: under. -/
/-- all these hold (by fuel) -/
def sb : Nat → List Tsk → Bool
  | _, [] => true
  | 0, _ :: _ => false
  | f + 1, z :: l => match stp z.1 z.2.1 z.2.2 with
    | none => false
    | some l' => sb f (l' ++ l)
/-- how many tasks are open at once, at most -/
def sn : Nat → List Tsk → Nat
  | _, [] => 0
  | 0, _ :: l => l.length + 3
  | f + 1, z :: l => max (l.length + 3) (match stp z.1 z.2.1 z.2.2 with
    | none => 0
    | some l' => sn f (l' ++ l))
theorem stp_next {z : Tsk} {l' : List Tsk} (h : tok z) (e : stp z.1 z.2.1 z.2.2 = some l') : tws l' + 1 ≤ twt z ∧ ∀ x ∈ l', tok x := stp_w h e
theorem stl_len {Γ : List Ty} {m k : Nat} {x y : Ty} : (stl Γ m k x y).length ≤ 1 := by
  unfold stl; split <;> simp
theorem stp_shape {Γ : List Ty} {s t : Ty} {l : List Tsk} (e : stp Γ s t = some l) : l.length ≤ 3 ∧ ∀ x ∈ l, x.1.length ≤ Γ.length + 1 := by
  have key : ∀ m k x y, ∀ z ∈ stl Γ m k x y, z.1.length ≤ Γ.length + 1 := by
    intro m k x y z hz
    unfold stl at hz
    split at hz
    · rw [List.mem_singleton] at hz; subst hz; simp only; omega
    · cases hz
  unfold stp at e
  repeat' split at e
  all_goals cases e
  · exact ⟨by simp, fun x hx => by cases hx⟩
  · exact ⟨by simp, fun x hx => by rw [List.mem_singleton] at hx; subst hx; simp only; omega⟩
  · refine ⟨?_, fun x hx => ?_⟩
    · rw [List.length_append, List.length_append]
      have a1 := @stl_len Γ (hd t - 8) 2 (r3 s) (r3 t)
      have a2 := @stl_len Γ (hd t - 8) 1 (r2 s) (r2 t)
      have a3 := @stl_len Γ (hd t - 8) 0 (k1 s) (k1 t)
      omega
    · rcases List.mem_append.mp hx with hx | hx
      · exact key _ _ _ _ x hx
      · rcases List.mem_append.mp hx with hx | hx
        · exact key _ _ _ _ x hx
        · exact key _ _ _ _ x hx
  · refine ⟨by simp, fun x hx => ?_⟩
    rcases List.mem_cons.mp hx with rfl | hx
    · simp only; omega
    · rw [List.mem_singleton] at hx; subst hx; simp only; omega
  · exact ⟨by simp, fun x hx => by rw [List.mem_singleton] at hx; subst hx; simp⟩
/-- more fuel than the weight changes nothing -/
theorem sb_more : ∀ (f g : Nat) (l : List Tsk), (∀ z ∈ l, tok z) → tws l ≤ f → tws l ≤ g → sb f l = sb g l
  | f, g, [], _, _, _ => by cases f <;> cases g <;> rfl
  | 0, g, z :: l, ht, hf, _ => by
    have := twt_two (ht z (List.mem_cons_self ..))
    have hf : twt z + tws l ≤ 0 := hf
    omega
  | f + 1, 0, z :: l, ht, _, hg => by
    have := twt_two (ht z (List.mem_cons_self ..))
    have hg : twt z + tws l ≤ 0 := hg
    omega
  | f + 1, g + 1, z :: l, ht, hf, hg => by
    have hf : twt z + tws l ≤ f + 1 := hf
    have hg : twt z + tws l ≤ g + 1 := hg
    unfold sb
    cases e : stp z.1 z.2.1 z.2.2 with
    | none => rfl
    | some l' =>
      obtain ⟨w1, w2⟩ := stp_next (ht z (List.mem_cons_self ..)) e
      refine sb_more f g (l' ++ l) (fun y hy => ?_) (by rw [tws_app]; omega) (by rw [tws_app]; omega)
      rcases List.mem_append.mp hy with hy | hy
      · exact w2 y hy
      · exact ht y (List.mem_cons_of_mem _ hy)
/-- one type is below another -/
def bel (Γ : List Ty) (S T : Ty) : Bool := sb (wt (om Γ) S + wt (om Γ) T) [(Γ, S, T)]
theorem len_tws : ∀ {l : List Tsk}, (∀ z ∈ l, tok z) → 2 * l.length ≤ tws l
  | [], _ => Nat.le_refl _
  | z :: l, h => by
    have h1 := twt_two (h z (List.mem_cons_self ..))
    have h2 := len_tws (l := l) (fun y hy => h y (List.mem_cons_of_mem _ hy))
    show 2 * (l.length + 1) ≤ twt z + tws l
    omega
theorem sn_le : ∀ (f : Nat) (l : List Tsk), (∀ z ∈ l, tok z) → sn f l ≤ tws l / 2 + 2
  | f, [], _ => by cases f <;> exact Nat.zero_le _
  | 0, z :: l, h => by
    have h1 := twt_two (h z (List.mem_cons_self ..))
    have h2 := len_tws (l := l) (fun y hy => h y (List.mem_cons_of_mem _ hy))
    show l.length + 3 ≤ (twt z + tws l) / 2 + 2
    omega
  | f + 1, z :: l, h => by
    have h1 := twt_two (h z (List.mem_cons_self ..))
    have h2 := len_tws (l := l) (fun y hy => h y (List.mem_cons_of_mem _ hy))
    unfold sn
    refine Nat.max_le.mpr ⟨?_, ?_⟩
    · show l.length + 3 ≤ (twt z + tws l) / 2 + 2
      omega
    · show _ ≤ (twt z + tws l) / 2 + 2
      cases e : stp z.1 z.2.1 z.2.2 with
      | none => exact Nat.zero_le _
      | some l' =>
        obtain ⟨w1, w2⟩ := stp_next (h z (List.mem_cons_self ..)) e
        have := sn_le f (l' ++ l) (fun y hy => by
          rcases List.mem_append.mp hy with hy | hy
          · exact w2 y hy
          · exact h y (List.mem_cons_of_mem _ hy))
        rw [tws_app] at this
        show sn f (l' ++ l) ≤ _
        omega
theorem pop_ext (N : pm_M) (v u x k : Int) : Ext N (mset N 56 34 v) u x k := by
  intro p i h1 h2 h3 h4
  unfold mset
  rw [if_neg (fun e => (h1 e.1).2.2 e.2)]
section PmM8
variable {d : Nat} {Q : Option Value → pm_S → Prop} {M N : pm_M} {Rf : Nat → Nat → Nat} {K L : Nat → Nat} {n s : Nat}
set_option maxRecDepth 20000 in
theorem under_end {u x v : Int} {o1 o2 o3 o4 o5 o6 o10 : Option Value} (hv : v = 0 ∨ v = 1) (hG : pm_G Rf K L n) (hE : Ext M N u x 0) (hN : ∀ p i, R32 (N p i)) (ru : R32 u) (rx : R32 x) (h : ∀ N' : pm_M, Ext M N' u x 0 → (∀ p i, R32 (N' p i)) → N' 56 22 = u → N' 56 24 = x → Q (some (.int (zI v))) (zM N', Rf, K, L, n, s)) : pm_Wp none (d + 6) 161 125 [some (.ref 56), o1, o2, o3, o4, o5, o6, some (.int (zI u)), some (.int (zI x)), some (.int (zI v)), o10] [] (zM N, Rf, K, L, n, s) Q := by
  refine wp_aload_n d161_125 rfl ?_
  refine wp_iload d161_126 rfl ?_
  refine wz_putI (i := 22) d161_128 rfl (hG.o (by decide) rfl) rfl (by decide) rfl ?_
  refine wp_aload_n d161_131 rfl ?_
  refine wp_iload d161_132 rfl ?_
  refine wz_putI (i := 24) d161_134 rfl (hG.o (by decide) rfl) rfl (by decide) rfl ?_
  refine wp_iload d161_137 rfl ?_
  refine wp_ret d161_139 (by rcases hv with rfl | rfl <;> rfl) (h _ ?_ ?_ ?_ ?_)
  · intro p i h1 h2 h3 h4
    rw [← hE p i h1 h2 h3 h4]
    unfold mset
    rw [if_neg (fun e => (h1 e.1).2.1 e.2), if_neg (fun e => (h1 e.1).1 e.2)]
  · exact mset_R32 (mset_R32 hN ru) rx
  · rw [mset_i _ _ _ _ (by decide), mset_s]
  · rw [mset_s]
set_option maxRecDepth 20000 in
theorem under_no {u x : Int} {o1 o2 o3 o4 o5 o6 o10 : Option Value} (hG : pm_G Rf K L n) (hE : Ext M N u x 0) (hN : ∀ p i, R32 (N p i)) (ru : R32 u) (rx : R32 x) (h : ∀ N' : pm_M, Ext M N' u x 0 → (∀ p i, R32 (N' p i)) → N' 56 22 = u → N' 56 24 = x → Q (some (.int (zI 0))) (zM N', Rf, K, L, n, s)) : pm_Wp none (d + 6) 161 33 [some (.ref 56), o1, o2, o3, o4, o5, o6, some (.int (zI u)), some (.int (zI x)), some (.int (zI 0)), o10] [] (zM N, Rf, K, L, n, s) Q := by
  obtain ⟨tk, htk⟩ : ∃ tk, N 56 34 = tk := ⟨_, rfl⟩
  have rt : R32 tk := by rw [← htk]; exact hN _ _
  refine wp_aload_n d161_33 rfl ?_
  refine wz_getI (v := tk) d161_34 rfl (hG.o (by decide) rfl) (by decide) htk ?_
  refine wz_if_le (t := 125) d161_37 (by decide) (rt) (fun hb37 => ?_) (fun hb37 => ?_)
  · skip
    exact under_end (Or.inl rfl) hG hE hN ru rx h
  · skip
    refine wp_iload d161_40 rfl ?_
    refine wz_if_eq (t := 125) d161_42 (by decide) (⟨by omega, by omega⟩) (fun _ => ?_) (fun hb => absurd (by decide) hb)
    exact under_end (Or.inl rfl) hG hE hN ru rx h
set_option maxRecDepth 20000 in
set_option maxHeartbeats 1000000 in
theorem under_loop {u x : Int} (hG : pm_G Rf K L n) (u0 : 0 ≤ u) (u1 : u ≤ 1100) (x0 : 0 ≤ x) (x1 : x ≤ 900) {o1 o2 o3 o4 o5 o6 : Option Value} : ∀ (f : Nat) (l : List Tsk) (N : pm_M) (u' x' : Int) (o10 : Option Value), SI M N u x 0 u' x' l → tws l ≤ f → (∀ z ∈ l, tok z) → (∀ z ∈ l, z.1.length + trx z ≤ 1990) → u' + rxs l < 1100 → x' + rxs l < 900 → sn f l ≤ 300 → (∀ N' : pm_M, Ext M N' u x 0 → (∀ p i, R32 (N' p i)) → N' 56 22 = u → N' 56 24 = x → Q (some (.int (zI (if sb f l = true then 1 else 0)))) (zM N', Rf, K, L, n, s)) → pm_Wp none (d + 6) 161 33 [some (.ref 56), o1, o2, o3, o4, o5, o6, some (.int (zI u)), some (.int (zI x)), some (.int (zI 1)), o10] [] (zM N, Rf, K, L, n, s) Q
  | f, [], N, u', x', o10, hs, _, _, _, _, _, _, h => by
    have e : sb f [] = true := by cases f <;> rfl
    rw [e, if_pos rfl] at h
    have hk := hs.hk
    rw [List.length_nil] at hk
    refine wp_aload_n d161_33 rfl ?_
    refine wz_getI (v := 0 + ((0 : Nat) : Int)) d161_34 rfl (hG.o (by decide) rfl) (by decide) hk ?_
    refine wz_if_le (t := 125) d161_37 (by decide) (⟨by omega, by omega⟩) (fun _ => ?_) (fun hb => absurd (by omega) hb)
    exact under_end (Or.inr rfl) hG hs.ext hs.r32 ⟨by omega, by omega⟩ ⟨by omega, by omega⟩ h
  | 0, z :: l, N, u', x', o10, hs, hf, ht, _, _, _, _, h => by
    have := twt_two (ht z (List.mem_cons_self ..))
    have hf : twt z + tws l ≤ 0 := hf
    omega
  | f + 1, (Γ, S, T) :: l, N, u', x', o10, hs, hf, ht, hd2, hu1, hx1, hn, h => by
    have htz := ht _ (List.mem_cons_self ..)
    have h2z := hd2 _ (List.mem_cons_self ..)
    have hw2 := twt_two htz
    have hl2 := len_tws (l := l) (fun y hy => ht y (List.mem_cons_of_mem _ hy))
    have hf : twt (Γ, S, T) + tws l ≤ f + 1 := hf
    have hu1 : u' + ((trx (Γ, S, T) + rxs l : Nat) : Int) < 1100 := hu1
    have hx1 : x' + ((trx (Γ, S, T) + rxs l : Nat) : Int) < 900 := hx1
    have hn1 : l.length + 3 ≤ 300 := Nat.le_trans (Nat.le_max_left _ _) hn
    have hn2 : (match stp Γ S T with | none => 0 | some l' => sn f (l' ++ l)) ≤ 300 := Nat.le_trans (Nat.le_max_right _ _) hn
    have hk := hs.hk
    rw [List.length_cons] at hk
    have hk : N 56 34 = (l.length : Int) + 1 := by rw [hk]; omega
    have ta : TA N u' x' (0 + l.length) (Γ, S, T) := hs.ts.1
    rw [Int.zero_add] at ta
    have hDl : Γ.length ≤ 1998 := by simp only at h2z; omega
    have huu := hs.uu
    have hxx := hs.xx
    have tz : TH (mset N 56 34 (l.length : Int)) u' x' _ _ _ _ _ _ (Γ, S, T) := TH.mono ta (pop_ext N l.length u' x' l.length) (Int.le_refl _) (Int.le_refl _)
    have eD : N 80 (6 * (l.length : Int) + 5) = (Γ.length : Int) := tz.hD
    rw [eD] at tz
    have s1 : SI M (mset N 56 34 (l.length : Int)) u x 0 u' x' l := ⟨hs.ext.trans (pop_ext N l.length u' x' 0) hs.uu hs.xx (Int.le_refl _), mset_R32 hs.r32 ⟨by omega, by omega⟩, by rw [mset_i _ _ _ _ (by decide)]; exact hs.hu, by rw [mset_i _ _ _ _ (by decide)]; exact hs.hx, hs.uu, hs.xx, by rw [mset_s]; omega, TS.mono (pop_ext N l.length u' x' (0 + l.length)) (Int.le_refl _) (Int.le_refl _) (Int.le_refl _) hs.ts.2⟩
    refine wp_aload_n d161_33 rfl ?_
    refine wz_getI (v := ((l.length : Int) + 1)) d161_34 rfl (hG.o (by decide) rfl) (by decide) hk ?_
    refine wz_if_le (t := 125) d161_37 (by decide) (⟨by omega, by omega⟩) (fun hb => absurd hb (by omega)) (fun _ => ?_)
    refine wp_iload d161_40 rfl ?_
    refine wz_if_eq (t := 125) d161_42 (by decide) (⟨by omega, by omega⟩) (fun hb => absurd hb (by decide)) (fun _ => ?_)
    refine wp_aload_n d161_45 rfl ?_
    refine wp_dupr d161_46 ?_
    refine wz_getI (v := ((l.length : Int) + 1)) d161_47 rfl (hG.o (by decide) rfl) (by decide) hk ?_
    refine wz_iconst d161_50 ?_
    refine wz_isub d161_51 ?_
    refine wz_putI (i := 34) d161_52 rfl (hG.o (by decide) rfl) rfl (by decide) rfl ?_
    refine wz_bipush d161_55 (by decide) ?_
    refine wp_aload_n d161_57 rfl ?_
    refine wz_getI (v := (((l.length : Int) + 1)) - 1) d161_58 rfl (hG.o (by decide) rfl) (by decide) (by simp [mset]) ?_
    refine wz_imul d161_61 ?_
    refine wp_istore d161_62 (Nat.le_of_ble_eq_true rfl) rfl ?_
    refine wp_aload_n d161_64 rfl ?_
    refine wp_aload_n d161_65 rfl ?_
    refine wp_getR (q := 80) d161_66 rfl (hG.o (by decide) rfl) (by decide) (hG.r (by decide +kernel)) (by decide) ?_
    refine wp_iload d161_69 rfl ?_
    refine wz_iald (z := 1800) (v := N 80 (6 * ((((l.length : Int) + 1)) - 1))) d161_71 (hG.a (by decide) rfl rfl) (by omega) (by omega) (by decide) (by simp [mset]) ?_
    refine wp_aload_n d161_72 rfl ?_
    refine wp_getR (q := 80) d161_73 rfl (hG.o (by decide) rfl) (by decide) (hG.r (by decide +kernel)) (by decide) ?_
    refine wp_iload d161_76 rfl ?_
    refine wz_iconst d161_78 ?_
    refine wz_iadd d161_79 ?_
    refine wz_iald (z := 1800) (v := N 80 ((6 * ((((l.length : Int) + 1)) - 1)) + 1)) d161_80 (hG.a (by decide) rfl rfl) (by omega) (by omega) (by decide) (by simp [mset]) ?_
    refine wp_aload_n d161_81 rfl ?_
    refine wp_getR (q := 80) d161_82 rfl (hG.o (by decide) rfl) (by decide) (hG.r (by decide +kernel)) (by decide) ?_
    refine wp_iload d161_85 rfl ?_
    refine wz_iconst d161_87 ?_
    refine wz_iadd d161_88 ?_
    refine wz_iald (z := 1800) (v := N 80 ((6 * ((((l.length : Int) + 1)) - 1)) + 2)) d161_89 (hG.a (by decide) rfl rfl) (by omega) (by omega) (by decide) (by simp [mset]) ?_
    refine wp_aload_n d161_90 rfl ?_
    refine wp_getR (q := 80) d161_91 rfl (hG.o (by decide) rfl) (by decide) (hG.r (by decide +kernel)) (by decide) ?_
    refine wp_iload d161_94 rfl ?_
    refine wz_iconst d161_96 ?_
    refine wz_iadd d161_97 ?_
    refine wz_iald (z := 1800) (v := N 80 ((6 * ((((l.length : Int) + 1)) - 1)) + 3)) d161_98 (hG.a (by decide) rfl rfl) (by omega) (by omega) (by decide) (by simp [mset]) ?_
    refine wp_aload_n d161_99 rfl ?_
    refine wp_getR (q := 80) d161_100 rfl (hG.o (by decide) rfl) (by decide) (hG.r (by decide +kernel)) (by decide) ?_
    refine wp_iload d161_103 rfl ?_
    refine wz_iconst d161_105 ?_
    refine wz_iadd d161_106 ?_
    refine wz_iald (z := 1800) (v := N 80 ((6 * ((((l.length : Int) + 1)) - 1)) + 4)) d161_107 (hG.a (by decide) rfl rfl) (by omega) (by omega) (by decide) (by simp [mset]) ?_
    refine wp_aload_n d161_108 rfl ?_
    refine wp_getR (q := 80) d161_109 rfl (hG.o (by decide) rfl) (by decide) (hG.r (by decide +kernel)) (by decide) ?_
    refine wp_iload d161_112 rfl ?_
    refine wz_iconst d161_114 ?_
    refine wz_iadd d161_115 ?_
    refine wz_iald (z := 1800) (v := N 80 ((6 * ((((l.length : Int) + 1)) - 1)) + 5)) d161_116 (hG.a (by decide) rfl rfl) (by omega) (by omega) (by decide) (by simp [mset]) ?_
    refine wp_virt (as := [.int (zI (N 80 ((6 * ((((l.length : Int) + 1)) - 1)) + 5))), .int (zI (N 80 ((6 * ((((l.length : Int) + 1)) - 1)) + 4))), .int (zI (N 80 ((6 * ((((l.length : Int) + 1)) - 1)) + 3))), .int (zI (N 80 ((6 * ((((l.length : Int) + 1)) - 1)) + 2))), .int (zI (N 80 ((6 * ((((l.length : Int) + 1)) - 1)) + 1))), .int (zI (N 80 (6 * ((((l.length : Int) + 1)) - 1))))]) (rest := []) d161_117 rfl rfl rfl (hG.o (by decide) rfl) rfl rfl (Nat.le_of_ble_eq_true rfl) ?_
    rw [show (l.length : Int) + 1 - 1 = l.length by omega, eD]; refine m_settle (d := d) (k := (l.length : Int)) hG s1.r32 s1.hu s1.hx (by rw [mset_s]) (by omega) (by omega) (by omega) (by omega) (by omega) (by omega) tz (fun N2 u2 x2 l' v s2 hu2 hx2 hv => ?_)
    refine wp_istore d161_120 (Nat.le_of_ble_eq_true rfl) rfl ?_
    refine wp_goto (t := 33) d161_122 (by decide) ?_
    rcases hv with ⟨est, rfl⟩ | ⟨est, rfl⟩
    · obtain ⟨w1, w2⟩ := stp_next htz est
      have esb : sb (f + 1) ((Γ, S, T) :: l) = sb f (l' ++ l) := by rw [sb]; simp only [est]
      rw [esb] at h
      rw [est] at hn2
      have sh := stp_ctx htz est
      have hta : tws (l' ++ l) = tws l' + tws l := tws_app l' l
      have htr : rxs (l' ++ l) = rxs l' + rxs l := rxs_app l' l
      have w3 : rxs l' + rst S T = trx (Γ, S, T) := stp_x htz est
      have w4 := rst_le S T
      refine under_loop hG u0 u1 x0 x1 f (l' ++ l) N2 u2 x2 _ ⟨s1.ext.trans s2.ext hs.uu hs.xx (by omega), s2.r32, s2.hu, s2.hx, by have := s2.uu; omega, by have := s2.xx; omega, by rw [s2.hk, List.length_append]; omega, ?_⟩ (by omega) (fun y hy => ?_) (fun y hy => ?_) (by omega) (by omega) hn2 h
      · exact TS.app.mpr ⟨by rw [Int.zero_add]; exact s2.ts, TS.mono s2.ext s2.uu s2.xx (by omega) s1.ts⟩
      · rcases List.mem_append.mp hy with hy | hy
        · exact w2 y hy
        · exact ht y (List.mem_cons_of_mem _ hy)
      · rcases List.mem_append.mp hy with hy | hy
        · have a1 := sh y hy
          have a2 : trx y ≤ rxs l' := sumt_mem hy
          simp only at h2z
          omega
        · exact hd2 y (List.mem_cons_of_mem _ hy)
    · have esb : sb (f + 1) ((Γ, S, T) :: l) = false := by rw [sb]; simp only [est]
      rw [esb] at h
      exact under_no hG (s1.ext.trans s2.ext hs.uu hs.xx (by omega)) s2.r32 ⟨by omega, by omega⟩ ⟨by omega, by omega⟩ (fun N' a1 a2 a3 a4 => by have := h N' a1 a2 a3 a4; simpa using this)
set_option maxRecDepth 20000 in
set_option maxHeartbeats 1000000 in
theorem m_under {u x a p b q c : Int} {Γ : List Ty} {S T : Ty} (hG : pm_G Rf K L n) (hM : ∀ p i, R32 (M p i)) (hu : M 56 22 = u) (hx : M 56 24 = x) (t : TH M u x a p b q c (Γ.length : Int) (Γ, S, T)) (x0 : 0 ≤ x) (w0 : Γ.length + trx (Γ, S, T) ≤ 1990) (w1 : u + ((trx (Γ, S, T) : Nat) : Int) < 1100) (w2 : x + ((trx (Γ, S, T) : Nat) : Int) < 900) (w3 : sn (wt (om Γ) S + wt (om Γ) T) [(Γ, S, T)] ≤ 300) (h : ∀ N' : pm_M, Ext M N' u x 0 → (∀ p i, R32 (N' p i)) → N' 56 22 = u → N' 56 24 = x → Q (some (.int (zI (if bel Γ S T = true then 1 else 0)))) (zM N', Rf, K, L, n, s)) : pm_Wc (d + 7) 161 [.ref 56, .int (zI a), .int (zI p), .int (zI b), .int (zI q), .int (zI c), .int (zI (Γ.length : Int))] (zM M, Rf, K, L, n, s) Q := by
  refine wc_in (ls0 := [some (.ref 56), some (.int (zI a)), some (.int (zI p)), some (.int (zI b)), some (.int (zI q)), some (.int (zI c)), some (.int (zI (Γ.length : Int))), none, none, none, none]) (by decide) (Nat.le_of_ble_eq_true rfl) rfl rfl ?_
  have t1 := t.a0; have t2 := t.a1
  have s0 : SI M (mset M 56 34 0) u x 0 u x [] := ⟨pop_ext M 0 u x 0, mset_R32 hM ⟨by omega, by omega⟩, by rw [mset_i _ _ _ _ (by decide)]; exact hu, by rw [mset_i _ _ _ _ (by decide)]; exact hx, Int.le_refl _, Int.le_refl _, by rw [mset_s]; rfl, trivial⟩
  have t0 := t.mono (u' := u) (x' := x) (pop_ext M 0 u x 0) (Int.le_refl _) (Int.le_refl _)
  refine wp_aload_n d161_0 rfl ?_
  refine wz_getI (v := u) d161_1 rfl (hG.o (by decide) rfl) (by decide) hu ?_
  refine wp_istore d161_4 (Nat.le_of_ble_eq_true rfl) rfl ?_
  refine wp_aload_n d161_6 rfl ?_
  refine wz_getI (v := x) d161_7 rfl (hG.o (by decide) rfl) (by decide) hx ?_
  refine wp_istore d161_10 (Nat.le_of_ble_eq_true rfl) rfl ?_
  refine wp_aload_n d161_12 rfl ?_
  refine wz_iconst d161_13 ?_
  refine wz_putI (i := 34) d161_14 rfl (hG.o (by decide) rfl) rfl (by decide) rfl ?_
  refine wp_aload_n d161_17 rfl ?_
  refine wp_iload_n d161_18 rfl ?_
  refine wp_iload_n d161_19 rfl ?_
  refine wp_iload_n d161_20 rfl ?_
  refine wp_iload d161_21 rfl ?_
  refine wp_iload d161_23 rfl ?_
  refine wp_iload d161_25 rfl ?_
  refine wp_virt (as := [.int (zI ((Γ.length : Int))), .int (zI (c)), .int (zI (q)), .int (zI (b)), .int (zI (p)), .int (zI (a))]) (rest := []) d161_27 rfl rfl rfl (hG.o (by decide) rfl) rfl rfl (Nat.le_of_ble_eq_true rfl) ?_
  refine m_poseS hG s0 t0 (Int.le_refl _) (by simp) (by omega) x0 (by omega) (by simp only; omega) (fun N1 s1 e1 => ?_)
  refine wz_iconst d161_30 ?_
  refine wp_istore d161_31 (Nat.le_of_ble_eq_true rfl) rfl ?_
  refine under_loop hG (by omega) (by omega) x0 (by omega) _ _ N1 u x _ s1 (Nat.le_refl _) (fun z hz => ?_) (fun z hz => ?_) ?_ ?_ w3 h
  · rw [List.mem_singleton] at hz; subst hz; exact t.ok
  · rw [List.mem_singleton] at hz; subst hz; exact w0
  · show u + ((trx (Γ, S, T) + 0 : Nat) : Int) < 1100; omega
  · show x + ((trx (Γ, S, T) + 0 : Nat) : Int) < 900; omega
end PmM8
