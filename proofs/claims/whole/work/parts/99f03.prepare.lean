/-! THE MODEL: prepare. -/
section PmF3
variable {N N' : pm_M} {a b : Nat} {T : Ty}
theorem ND.same (hn : ∀ (q : Nat) (i : Int), 59 ≤ q → q ≤ 63 → 0 ≤ i → i < a → N' q i = N q i) (hs : ∀ (q : Nat) (i : Int), 64 ≤ q → q ≤ 67 → 0 ≤ i → i < b → N' q i = N q i) {F : Nat} {t : Ty} {Γ : List Ty} {Δ : List (Nat × Ty × Nat)} {j : Nat} (h : ND N a b T F t Γ Δ j) : ND N' a b T F t Γ Δ j := by
  obtain ⟨s, ch, h1, h2⟩ := h.md
  exact ⟨h.1, h.2.1, h.2.2.1, h.2.2.2.1, h.2.2.2.2.1, h.2.2.2.2.2.1, s, ch, h1.kpg hn hs, h2.same hs⟩
theorem SCK.same (hn : ∀ (q : Nat) (i : Int), 59 ≤ q → q ≤ 63 → 0 ≤ i → i < a → N' q i = N q i) (hs : ∀ (q : Nat) (i : Int), 64 ≤ q → q ≤ 67 → 0 ≤ i → i < b → N' q i = N q i) (h : SCK N a b) : SCK N' a b := by
  intro s h1
  obtain ⟨g1, g2, g3, g4⟩ := h s h1
  rw [hs 64 _ (by decide) (by decide) (by omega) (by omega), hs 67 _ (by decide) (by decide) (by omega) (by omega), hn 63 _ (by decide) (by decide) g3.1 g3.2]
  exact ⟨g1, g2, g3, g4⟩
/-- the rows of a context lie behind the rows of nodes -/
def CtxR (M : pm_M) : Int → List Ty → Prop
  | _, [] => True
  | c, _ :: Γ => 68 ≤ M 76 c ∧ CtxR M (M 74 c) Γ
theorem Ctx.mvR {M N : pm_M} {u x u' x' : Int} (h : ∀ (p : Nat) (i : Int), (p = 73 ∧ 17 * 68 ≤ i ∧ i < 17 * u) ∨ ((p = 74 ∨ p = 75 ∨ p = 76) ∧ i < x) → N p i = M p i) (hu : u ≤ u') (hx : x ≤ x') : ∀ {Γ : List Ty} {c : Int}, Ctx M u x c Γ → CtxR M c Γ → Ctx N u' x' c Γ ∧ CtxR N c Γ
  | [], _, hc, _ => ⟨hc, trivial⟩
  | b :: Γ, c, ⟨h0, h1, h2, h3, h4, h5, h6, h7, h8⟩, ⟨r1, r2⟩ => by
    have e74 := h 74 c (Or.inr ⟨by omega, h1⟩)
    have e75 := h 75 c (Or.inr ⟨by omega, h1⟩)
    have e76 := h 76 c (Or.inr ⟨by omega, h1⟩)
    obtain ⟨q1, q2⟩ := h8.mvR h hu hx r2
    refine ⟨⟨h0, by omega, e75.trans h2, by rw [e76]; exact h3, by rw [e76]; omega, ?_, h6, h7, by rw [e74]; exact q1⟩, by rw [e76]; exact r1, by rw [e74]; exact q2⟩
    rw [e76]
    exact Row.same (fun i i0 i1 => h 73 _ (Or.inl ⟨rfl, by omega, by omega⟩)) h5
/-- a scope is prepared: its row, its context -/
def PRk (N : pm_M) (T : Ty) (u x : Int) (k : Nat) : Prop := ∀ (o f : Nat) (t : Ty) (Γ : List Ty) (Δ : List (Nat × Ty × Nat)), N 67 (k : Int) = (o : Int) → nAt 24 T [] [] o = some (f, t, Γ, Δ) → (nKd t = 6 ∨ nKd t = 8) → Row N (68 + (k : Int)) 0 (flat (nX t)) ∧ (flat (nX t)).length ≤ 16 ∧ Ctx N u x (N 77 (k : Int)) (if nKd t = 8 then nX t :: Γ else Γ) ∧ CtxR N (N 77 (k : Int)) (if nKd t = 8 then nX t :: Γ else Γ)
theorem PRk.mv {u x u' x' : Int} {k : Nat} (h : PRk N T u x k) (hk : 68 + (k : Int) < u) (h1 : ∀ (p : Nat) (i : Int), (p = 73 ∧ 17 * 68 ≤ i ∧ i < 17 * u) ∨ ((p = 74 ∨ p = 75 ∨ p = 76) ∧ i < x) → N' p i = N p i) (h2 : N' 67 (k : Int) = N 67 (k : Int)) (h3 : N' 77 (k : Int) = N 77 (k : Int)) (hu : u ≤ u') (hx : x ≤ x') : PRk N' T u' x' k := by
  intro o f t Γ Δ g1 g2 g3
  rw [h2] at g1
  obtain ⟨q1, q2, q3, q4⟩ := h o f t Γ Δ g1 g2 g3
  refine ⟨Row.same (fun i i0 i1 => h1 73 _ (Or.inl ⟨rfl, by omega, by omega⟩)) q1, q2, ?_⟩
  rw [h3]
  exact q3.mvR h1 hu hx q4
theorem PRk.ctx {s : Nat} {u x : Int} (h : ∀ k : Nat, k < s → PRk N T u x k) {s' : Int} {ch : List (Nat × Int × Nat)} {Γ : List Ty} {Δ : List (Nat × Ty × Nat)} (t : TCh N b T s' ch Γ Δ) (hs : s' < s) : Ctx N u x (if s' < 0 then -1 else N 77 s') Γ ∧ CtxR N (if s' < 0 then -1 else N 77 s') Γ := by
  cases ch with
  | nil =>
    obtain ⟨e1, e2, -⟩ := t
    rw [e1, e2, if_pos (by decide)]
    exact ⟨rfl, trivial⟩
  | cons e ch =>
    obtain ⟨g0, g1, o, f, t', Γ', Δ', g2, g3, g4, g5, g6⟩ := t
    obtain ⟨k, rfl⟩ : ∃ k : Nat, s' = (k : Int) := ⟨s'.toNat, by omega⟩
    obtain ⟨-, -, q⟩ := h k (by omega) o f t' Γ' Δ' g2 g3 (by rcases g5 with ⟨-, c, -⟩ | ⟨-, c, -⟩ <;> omega)
    rw [if_neg (by omega)]
    rcases g5 with ⟨-, c, c2, -⟩ | ⟨-, c, c2, -⟩
    · rw [if_neg (by omega)] at q
      rw [c2]; exact q
    · rw [if_pos c] at q
      rw [c2]; exact q
theorem ND.bdr (hN : ND N a b T 24 T [] [] 0) (aT : a = (tfl T).length) (hK : SCK N a b) {s o : Nat} (hs : s < b) (ho : N 67 (s : Int) = (o : Int)) (hk : N 59 (o : Int) = 6 ∨ N 59 (o : Int) = 8) : ∃ (f : Nat) (t : Ty) (Γ : List Ty) (Δ : List (Nat × Ty × Nat)) (ch : List (Nat × Int × Nat)), nAt 24 T [] [] o = some (f, t, Γ, Δ) ∧ N 59 (o : Int) = (nKd t : Int) ∧ SCh 0 N a b (N 64 (s : Int)) ch ∧ TCh N b T (N 64 (s : Int)) ch Γ Δ ∧ NTl 0 N a b (o + 1) (flat (nX t)) true ∧ o + 1 + (flat (nX t)).length ≤ a ∧ ok Γ.length (nX t) = true ∧ (flat (nX t)).length ≤ 16 ∧ Γ.length ≤ 25 := by
  obtain ⟨k1, k2, k3, k4⟩ := hK s hs
  have oa : o < (tfl T).length := by omega
  obtain ⟨f, t, Γ, Δ, hat⟩ := hN.ex (i := o) oa (by rw [Nat.zero_add]; omega)
  obtain ⟨nd, f1⟩ := hN.at oa hat
  rw [Nat.zero_add] at nd
  obtain ⟨f', rfl⟩ : ∃ f', f = f' + 1 := ⟨f - 1, by omega⟩
  obtain ⟨s', ch, md, tc⟩ := nd.md
  have fu := nd.fu
  obtain ⟨⟨m1, m2, m3, m40, m4⟩, -, -, -, m8, -, m10, -, -⟩ := md
  obtain ⟨-, -, w6, -, w8, -⟩ := nd.tw
  have hk6 : nKd t = 6 ∨ nKd t = 8 := by
    rw [m2] at hk
    clear k1 k2 k3 fu ho
    omega
  obtain ⟨nm, c0, -, -⟩ := m10 hk6
  rw [← ho, k4] at c0
  obtain ⟨nt, ntl⟩ := m8 (sk_6 hk6).1
  have oX : ok Γ.length (nX t) = true ∧ (flat (nX t)).length ≤ 16 := by
    rcases hk6 with e | e
    · exact ⟨(w6 e).2.1, (w6 e).2.2.1⟩
    · exact ⟨(w8 e).1, (w8 e).2.1⟩
  refine ⟨f' + 1, t, Γ, Δ, ch, hat, m2, by rw [c0.2]; exact m4, by rw [c0.2]; exact tc, nt, ntl, oX.1, oX.2, by clear k1 k2 k3; omega⟩
theorem ND.kd (hN : ND N a b T 24 T [] [] 0) (aT : a = (tfl T).length) {o f : Nat} {t : Ty} {Γ : List Ty} {Δ : List (Nat × Ty × Nat)} (oa : o < a) (hat : nAt 24 T [] [] o = some (f, t, Γ, Δ)) : N 59 (o : Int) = (nKd t : Int) := by
  obtain ⟨nd, f1⟩ := hN.at (by omega) hat
  rw [Nat.zero_add] at nd
  obtain ⟨f', rfl⟩ : ∃ f', f = f' + 1 := ⟨f - 1, by omega⟩
  obtain ⟨s', ch, md, -⟩ := nd.md
  exact md.1.2.1
end PmF3
/-- what prepare may write -/
def WPp (p : Nat) (i : Int) : Prop := (p = 56 ∧ (i = 22 ∨ i = 24)) ∨ (p = 73 ∧ 17 * 68 ≤ i) ∨ (74 ≤ p ∧ p ≤ 77)
def PPF (N N' : pm_M) : Prop := ∀ (p : Nat) (i : Int), ¬ WPp p i → N' p i = N p i
theorem PPF.set {N N' : pm_M} {p : Nat} {i v : Int} (h : PPF N N') (w : WPp p i) : PPF N (mset N' p i v) := by
  intro q k w2
  unfold mset
  rw [if_neg (fun e => w2 (by rw [e.1, e.2]; exact w))]
  exact h q k w2
theorem PPF.put {N N' : pm_M} {r : Int} {l : List Int} (h : PPF N N') (hr : 68 ≤ r) : PPF N (mput N' 73 (17 * r) l) := by
  intro q k w2
  unfold mput
  rw [if_neg (fun e => w2 (Or.inr (Or.inl ⟨e.1, by omega⟩)))]
  exact h q k w2
/-- types that are made open below a scope -/
def c8 (N : pm_M) (a s : Nat) : Nat := (List.range a).countP (fun (o : Nat) => decide (N 59 (o : Int) = 8 ∧ N 63 (o : Int) < (s : Int)))
theorem cP_lt {α : Type} {p q : α → Bool} (hpq : ∀ x, p x = true → q x = true) : ∀ {l : List α} {o : α}, o ∈ l → p o = false → q o = true → l.countP p + 1 ≤ l.countP q
  | [], _, h, _, _ => by cases h
  | x :: l, o, h, hp, hq => by
    rcases List.mem_cons.mp h with e | h
    · subst e
      have := List.countP_mono_left (l := l) (fun x _ => hpq x)
      rw [List.countP_cons_of_neg (by simp [hp]), List.countP_cons_of_pos hq]; omega
    · have ih := cP_lt hpq h hp hq
      by_cases c : p x = true
      · rw [List.countP_cons_of_pos c, List.countP_cons_of_pos (hpq x c)]; omega
      · rw [List.countP_cons_of_neg c]
        by_cases c2 : q x = true
        · rw [List.countP_cons_of_pos c2]; omega
        · rw [List.countP_cons_of_neg c2]; omega
theorem c8_up (N : pm_M) (a s : Nat) : c8 N a s ≤ c8 N a (s + 1) := by
  unfold c8
  refine List.countP_mono_left (fun o _ h => ?_)
  rw [decide_eq_true_iff] at h ⊢
  exact ⟨h.1, by omega⟩
theorem c8_one {N : pm_M} {a s o : Nat} (oa : o < a) (h8 : N 59 (o : Int) = 8) (h63 : N 63 (o : Int) = (s : Int)) : c8 N a s + 1 ≤ c8 N a (s + 1) := by
  unfold c8
  refine cP_lt (fun x h => ?_) (List.mem_range.mpr oa) ?_ ?_
  · rw [decide_eq_true_iff] at h ⊢
    exact ⟨h.1, by omega⟩
  · rw [decide_eq_false_iff_not]
    intro h
    omega
  · rw [decide_eq_true_iff]
    exact ⟨h8, by omega⟩
theorem c8_le (N : pm_M) (a s : Nat) : c8 N a s ≤ a := by
  have := List.countP_le_length (p := fun (o : Nat) => decide (N 59 (o : Int) = 8 ∧ N 63 (o : Int) < (s : Int))) (l := List.range a)
  rw [List.length_range] at this
  exact this
/-- where the loop of prepare stands -/
def PS (N : pm_M) (T : Ty) (a b s : Nat) (N' : pm_M) (x : Int) : Prop := (∀ p i, R32 (N' p i)) ∧ PPF N N' ∧ N' 56 22 = 132 ∧ N' 56 24 = x ∧ 0 ≤ x ∧ x ≤ (c8 N a s : Int) ∧ (∀ k : Nat, k < s → PRk N' T (68 + (s : Int)) x k)
section PmF4
variable {d : Nat} {Q : Option Value → pm_S → Prop} {N N' : pm_M} {Rf : Nat → Nat → Nat} {K L : Nat → Nat} {n s0 : Nat} {a b : Nat} {T : Ty}
theorem m_prep_bind {s o f : Nat} {x c : Int} {t : Ty} {Γ : List Ty} {Δ : List (Nat × Ty × Nat)} {ch : List (Nat × Int × Nat)} (hG : pm_G Rf K L n) (b60 : b ≤ 60) (a60 : a ≤ 60) (sb : s < b) (ps : PS N T a b s N' x) (ho : N' 67 (s : Int) = (o : Int)) (h63 : N' 63 (o : Int) = (s : Int)) (hk : N' 59 (o : Int) = 6 ∨ N' 59 (o : Int) = 8) (rc : R32 c) (hat : nAt 24 T [] [] o = some (f, t, Γ, Δ)) (hkd : N' 59 (o : Int) = (nKd t : Int)) (sch : SCh 0 N' a b (N' 64 (s : Int)) ch) (tlen : (tnm ch).length = Γ.length) (nt : NTl 0 N' a b (o + 1) (flat (nX t)) true) (ntl : o + 1 + (flat (nX t)).length ≤ a) (oX : ok Γ.length (nX t) = true) (lX : (flat (nX t)).length ≤ 16) (lG : Γ.length ≤ 25) (cxr : Ctx N' (68 + (s : Int)) x c Γ ∧ CtxR N' c Γ) (ih : ∀ (o2 o3 : Option Value) (N1 : pm_M) (x1 : Int), PS N T a b (s + 1) N1 x1 → pm_Wp none (d + 3) 187 6 [some (.ref 56), some (.int (zI ((s + 1 : Nat) : Int))), o2, o3] [] (zM N1, Rf, K, L, n, s0) Q) : pm_Wp none (d + 3) 187 70 [some (.ref 56), some (.int (zI (s : Int))), some (.int (zI c)), some (.int (zI (N' 59 (o : Int))))] [] (zM (mset N' 77 (s : Int) c), Rf, K, L, n, s0) Q := by
  obtain ⟨hM', fr, e22, e24, x0, x1, pr⟩ := ps
  have y1 := c8_up N a s
  have y2 := c8_le N a s
  have y59 : N' 59 (o : Int) = N 59 (o : Int) := fr 59 _ (by unfold WPp; omega)
  have y63 : N' 63 (o : Int) = N 63 (o : Int) := fr 63 _ (by unfold WPp; omega)
  have chl := sch.len
  have c64 := sch.rng
  have M1 : ∀ p i, R32 (mset N' 77 (s : Int) c p i) := mset_R32 hM' rc
  have fr1 : PPF N (mset N' 77 (s : Int) c) := fr.set (Or.inr (Or.inr (by decide)))
  have r59 := hM' 59 (o : Int)
  have nt1 : NTl 0 (mset N' 77 (s : Int) c) a b (o + 1) (flat (nX t)) true := nt.kpg (fun q i q1 q2 _ _ => mset_p _ _ _ _ (by omega)) (fun q i q1 q2 _ _ => mset_p _ _ _ _ (by omega)) ntl
  have fr2 : PPF N (mput (mset N' 77 (s : Int) c) 73 (17 * (68 + (s : Int))) (flat (nX t))) := fr1.put (by omega)
  refine wp_aload_n d187_70 rfl ?_
  refine wp_aload_n d187_71 rfl ?_
  refine wp_getR (q := 67) d187_72 rfl (hG.o (by decide) rfl) (by decide) (hG.r (by decide +kernel)) (by decide) ?_
  refine wp_iload_n d187_75 rfl ?_
  refine wz_iald (z := 128) (v := (o : Int)) d187_76 (hG.a (by decide) rfl rfl) (by omega) (by omega) (by decide) ((mset_p _ _ _ _ (by decide)).trans ho) ?_
  refine wz_iconst d187_77 ?_
  refine wz_iadd d187_78 ?_
  refine wz_bipush d187_79 (by decide) ?_
  refine wp_iload_n d187_81 rfl ?_
  refine wz_iadd d187_82 ?_
  refine wp_virt (as := [.int (zI (68 + (s : Int))), .int (zI ((o : Int) + 1))]) (rest := []) d187_83 rfl rfl rfl (hG.o (by decide) rfl) rfl rfl (Nat.le_of_ble_eq_true rfl) ?_
  rw [show (o : Int) + 1 = ((o + 1 : Nat) : Int) by omega]
  refine m_fill (d := d) (lo := 0) (nd := a) (sc := b) (D := Γ.length) hG M1 nt1 (by omega) oX lX (by omega) (by omega) (by omega) (fun M2 => ?_)
  refine wp_iload_n d187_86 rfl ?_
  refine wz_bipush d187_87 (by decide) ?_
  have row2 : Row (mput (mset N' 77 (s : Int) c) 73 (17 * (68 + (s : Int))) (flat (nX t))) (68 + (s : Int)) 0 (flat (nX t)) := by
    have := mput_row (flat (nX t)) (mset N' 77 (s : Int) c) (68 + (s : Int)) 0
    rw [Int.add_zero] at this
    exact this
  have same2 : ∀ (p : Nat) (i : Int), (p = 73 ∧ i < 17 * (68 + (s : Int))) ∨ ((p = 74 ∨ p = 75 ∨ p = 76) ∧ i < x) → mput (mset N' 77 (s : Int) c) 73 (17 * (68 + (s : Int))) (flat (nX t)) p i = N' p i := by
    intro p i e
    rcases e with ⟨e, e2⟩ | e
    · rw [mput_o _ _ _ _ (by omega), mset_p _ _ _ _ (by omega)]
    · rw [mput_p _ _ _ _ (by omega), mset_p _ _ _ _ (by omega)]
  refine wz_icmp_ne (t := 117) d187_89 (by decide) r59 ⟨by omega, by omega⟩ (fun hb3 => ?_) (fun hb3 => ?_)
  · skip
    have k6 : nKd t = 6 := by omega
    refine wz_iinc d187_117 rfl rfl ?_
    refine wp_goto (t := 6) d187_120 (by decide) ?_
    rw [show (s : Int) + 1 = ((s + 1 : Nat) : Int) by omega]
    refine ih _ _ _ x ⟨M2, fr2, (by rw [mput_p _ _ _ _ (by decide), mset_p _ _ _ _ (by decide)]; exact e22), (by rw [mput_p _ _ _ _ (by decide), mset_p _ _ _ _ (by decide)]; exact e24), x0, (by omega), (fun k hk => ?_)⟩
    by_cases ks : k = s
    · subst ks
      intro o' f t' Γ' Δ' g1 g2 g3
      rw [mput_p _ _ _ _ (by decide), mset_p _ _ _ _ (by decide), ho] at g1
      have : o = o' := by omega
      subst this
      rw [hat] at g2
      injection g2 with g2
      injection g2 with q1 q2
      injection q2 with q2 q3
      injection q3 with q3 q4
      subst q1 q2 q3 q4
      refine ⟨row2, lX, ?_⟩
      rw [if_neg (by omega), mput_p _ _ _ _ (by decide), mset_s]
      exact cxr.1.mvR (fun p i e => same2 p i (by omega)) (by omega) (Int.le_refl _) cxr.2
    · refine (pr k (by omega)).mv (by omega) (fun p i e => same2 p i (by omega)) ?_ ?_ (by omega) (Int.le_refl _)
      · rw [mput_p _ _ _ _ (by decide), mset_p _ _ _ _ (by decide)]
      · rw [mput_p _ _ _ _ (by decide), mset_i _ _ _ _ (by omega)]
  · skip
    have k8 : nKd t = 8 := by omega
    have y3 := c8_one (N := N) (a := a) (s := s) (o := o) (by omega) (by omega) (by omega)
    have sch2 : SCh 0 (mput (mset N' 77 (s : Int) c) 73 (17 * (68 + (s : Int))) (flat (nX t))) a b (N' 64 (s : Int)) ch := sch.kpg (fun q i q1 q2 _ _ => (mput_p _ _ _ _ (by omega)).trans (mset_p _ _ _ _ (by omega))) (fun q i q1 q2 _ _ => (mput_p _ _ _ _ (by omega)).trans (mset_p _ _ _ _ (by omega)))
    refine wp_aload_n d187_92 rfl ?_
    refine wp_getR (q := 77) d187_93 rfl (hG.o (by decide) rfl) (by decide) (hG.r (by decide +kernel)) (by decide) ?_
    refine wp_iload_n d187_96 rfl ?_
    refine wp_aload_n d187_97 rfl ?_
    refine wp_iload_n d187_98 rfl ?_
    refine wp_aload_n d187_99 rfl ?_
    refine wp_aload_n d187_100 rfl ?_
    refine wp_getR (q := 64) d187_101 rfl (hG.o (by decide) rfl) (by decide) (hG.r (by decide +kernel)) (by decide) ?_
    refine wp_iload_n d187_104 rfl ?_
    refine wz_iald (z := 128) (v := N' 64 (s : Int)) d187_105 (hG.a (by decide) rfl rfl) (by omega) (by omega) (by decide) ((mput_p _ _ _ _ (by decide)).trans (mset_p _ _ _ _ (by decide))) ?_
    refine wp_virt (as := [.int (zI (N' 64 (s : Int)))]) (rest := [.int (zI c), .ref 56, .int (zI (s : Int)), .ref 77]) d187_106 rfl rfl rfl (hG.o (by decide) rfl) rfl rfl (Nat.le_of_ble_eq_true rfl) ?_
    refine m_depthOf (lo := 0) (nd := a) (sc := b) hG sch2 (by omega) (by omega) ?_
    rw [tlen]
    refine wz_bipush d187_109 (by decide) ?_
    refine wp_iload_n d187_111 rfl ?_
    refine wz_iadd d187_112 ?_
    refine wp_virt (as := [.int (zI (68 + (s : Int))), .int (zI (Γ.length : Int)), .int (zI c)]) (rest := [.int (zI (s : Int)), .ref 77]) d187_113 rfl rfl rfl (hG.o (by decide) rfl) rfl rfl (Nat.le_of_ble_eq_true rfl) ?_
    refine m_context (cx := x) hG (by rw [mput_p _ _ _ _ (by decide), mset_p _ _ _ _ (by decide)]; exact e24) x0 (by omega) ?_
    rw [show x + 1 - 1 = x by omega]
    refine wz_iast (z := 64) d187_116 (hG.a (by decide) rfl rfl) (by omega) (by omega) (by decide) ?_
    refine wz_iinc d187_117 rfl rfl ?_
    refine wp_goto (t := 6) d187_120 (by decide) ?_
    rw [show (s : Int) + 1 = ((s + 1 : Nat) : Int) by omega]
    have same4 : ∀ (p : Nat) (i : Int), (p = 73 ∧ i < 17 * (68 + (s : Int))) ∨ ((p = 74 ∨ p = 75 ∨ p = 76) ∧ i < x) → mset (mset (mset (mset (mset (mput (mset N' 77 (s : Int) c) 73 (17 * (68 + (s : Int))) (flat (nX t))) 74 x c) 75 x (Γ.length : Int)) 76 x (68 + (s : Int))) 56 24 (x + 1)) 77 (s : Int) x p i = N' p i := by
      intro p i e
      rw [← same2 p i e, mset_p _ _ _ _ (by omega), mset_p _ _ _ _ (by omega)]
      rcases e with ⟨e, e2⟩ | ⟨e, e2⟩
      · rw [mset_p _ _ _ _ (by omega), mset_p _ _ _ _ (by omega), mset_p _ _ _ _ (by omega)]
      · rw [mset_i _ _ _ _ (by omega), mset_i _ _ _ _ (by omega), mset_i _ _ _ _ (by omega)]
    refine ih _ _ _ (x + 1) ⟨?_, ?_, ?_, ?_, (by omega), (by omega), (fun k hk => ?_)⟩
    · exact mset_R32 (mset_R32 (mset_R32 (mset_R32 (mset_R32 M2 rc) ⟨by omega, by omega⟩) ⟨by omega, by omega⟩) ⟨by omega, by omega⟩) ⟨by omega, by omega⟩
    · exact ((((fr2.set (by unfold WPp; omega)).set (by unfold WPp; omega)).set (by unfold WPp; omega)).set (by unfold WPp; omega)).set (by unfold WPp; omega)
    · rw [mset_p _ _ _ _ (by decide), mset_i _ _ _ _ (by decide), mset_p _ _ _ _ (by decide), mset_p _ _ _ _ (by decide), mset_p _ _ _ _ (by decide), mput_p _ _ _ _ (by decide), mset_p _ _ _ _ (by decide)]; exact e22
    · rw [mset_p _ _ _ _ (by decide), mset_s]
    by_cases ks : k = s
    · subst ks
      intro o' f t' Γ' Δ' g1 g2 g3
      rw [mset_p _ _ _ _ (by decide), mset_p _ _ _ _ (by decide), mset_p _ _ _ _ (by decide), mset_p _ _ _ _ (by decide), mset_p _ _ _ _ (by decide), mput_p _ _ _ _ (by decide), mset_p _ _ _ _ (by decide), ho] at g1
      have : o = o' := by omega
      subst this
      rw [hat] at g2
      injection g2 with g2
      injection g2 with q1 q2
      injection q2 with q2 q3
      injection q3 with q3 q4
      subst q1 q2 q3 q4
      have row4 : Row (mset (mset (mset (mset (mset (mput (mset N' 77 (k : Int) c) 73 (17 * (68 + (k : Int))) (flat (nX t))) 74 x c) 75 x (Γ.length : Int)) 76 x (68 + (k : Int))) 56 24 (x + 1)) 77 (k : Int) x) (68 + (k : Int)) 0 (flat (nX t)) := Row.same (fun i _ _ => by rw [mset_p _ _ _ _ (by decide), mset_p _ _ _ _ (by decide), mset_p _ _ _ _ (by decide), mset_p _ _ _ _ (by decide), mset_p _ _ _ _ (by decide)]) row2
      have f74 : mset (mset (mset (mset (mset (mput (mset N' 77 (k : Int) c) 73 (17 * (68 + (k : Int))) (flat (nX t))) 74 x c) 75 x (Γ.length : Int)) 76 x (68 + (k : Int))) 56 24 (x + 1)) 77 (k : Int) x 74 x = c := by rw [mset_p _ _ _ _ (by decide), mset_p _ _ _ _ (by decide), mset_p _ _ _ _ (by decide), mset_p _ _ _ _ (by decide), mset_s]
      have f75 : mset (mset (mset (mset (mset (mput (mset N' 77 (k : Int) c) 73 (17 * (68 + (k : Int))) (flat (nX t))) 74 x c) 75 x (Γ.length : Int)) 76 x (68 + (k : Int))) 56 24 (x + 1)) 77 (k : Int) x 75 x = (Γ.length : Int) := by rw [mset_p _ _ _ _ (by decide), mset_p _ _ _ _ (by decide), mset_p _ _ _ _ (by decide), mset_s]
      have f76 : mset (mset (mset (mset (mset (mput (mset N' 77 (k : Int) c) 73 (17 * (68 + (k : Int))) (flat (nX t))) 74 x c) 75 x (Γ.length : Int)) 76 x (68 + (k : Int))) 56 24 (x + 1)) 77 (k : Int) x 76 x = 68 + (k : Int) := by rw [mset_p _ _ _ _ (by decide), mset_p _ _ _ _ (by decide), mset_s]
      refine ⟨row4, lX, ?_⟩
      rw [if_pos k8, mset_s]
      obtain ⟨c1, c2⟩ := cxr.1.mvR (N := mset (mset (mset (mset (mset (mput (mset N' 77 (k : Int) c) 73 (17 * (68 + (k : Int))) (flat (nX t))) 74 x c) 75 x (Γ.length : Int)) 76 x (68 + (k : Int))) 56 24 (x + 1)) 77 (k : Int) x) (u' := 68 + ((k + 1 : Nat) : Int)) (x' := x + 1) (fun p i e => same4 p i (by omega)) (by omega) (by omega) cxr.2
      exact ⟨⟨x0, by omega, f75, by rw [f76]; omega, by rw [f76]; omega, by rw [f76]; exact row4, lX, oX, by rw [f74]; exact c1⟩, by rw [f76]; omega, by rw [f74]; exact c2⟩
    · refine (pr k (by omega)).mv (by omega) (fun p i e => same4 p i (by omega)) ?_ ?_ (by omega) (by omega)
      · rw [mset_p _ _ _ _ (by decide), mset_p _ _ _ _ (by decide), mset_p _ _ _ _ (by decide), mset_p _ _ _ _ (by decide), mset_p _ _ _ _ (by decide), mput_p _ _ _ _ (by decide), mset_p _ _ _ _ (by decide)]
      · rw [mset_i _ _ _ _ (by omega), mset_p _ _ _ _ (by decide), mset_p _ _ _ _ (by decide), mset_p _ _ _ _ (by decide), mset_p _ _ _ _ (by decide), mput_p _ _ _ _ (by decide), mset_i _ _ _ _ (by omega)]
theorem m_prepare (hG : pm_G Rf K L n) (hM : ∀ p i, R32 (N p i)) (hb : N 56 29 = (b : Int)) (a60 : a ≤ 60) (b60 : b ≤ 60) (hK : SCK N a b) (aT : a = (tfl T).length) (hN : ND N a b T 24 T [] [] 0) (h : ∀ (N' : pm_M) (x : Int), (∀ p i, R32 (N' p i)) → PPF N N' → N' 56 22 = 132 → N' 56 24 = x → 0 ≤ x → x ≤ (c8 N a b : Int) → (∀ k : Nat, k < b → PRk N' T (68 + (b : Int)) x k) → Q none (zM N', Rf, K, L, n, s0)) : pm_Wc (d + 4) 187 [.ref 56] (zM N, Rf, K, L, n, s0) Q := by
  have loop : ∀ (m s : Nat) (o2 o3 : Option Value) (N' : pm_M) (x : Int), s + m = b → PS N T a b s N' x → pm_Wp none (d + 3) 187 6 [some (.ref 56), some (.int (zI (s : Int))), o2, o3] [] (zM N', Rf, K, L, n, s0) Q := by
    intro m
    induction m with
    | zero =>
      intro s o2 o3 N' x hs ps
      obtain ⟨hM', fr, e22, e24, x0, x1, pr⟩ := id ps
      have e29 : N' 56 29 = (b : Int) := (fr 56 29 (by unfold WPp; omega)).trans hb
      have es : s = b := by omega
      refine wp_iload_n d187_6 rfl ?_
      refine wp_aload_n d187_7 rfl ?_
      refine wz_getI (v := (b : Int)) d187_8 rfl (hG.o (by decide) rfl) (by decide) (e29) ?_
      refine wz_icmp_ge (t := 123) d187_11 (by decide) ⟨by omega, by omega⟩ ⟨by omega, by omega⟩ (fun _ => ?_) (fun hb => absurd (by omega) hb)
      exact wp_ret d187_123 rfl (h N' x hM' fr e22 e24 x0 (by rw [← es]; exact x1) (by rw [← es]; exact pr))
    | succ m ih =>
      intro s o2 o3 N' x hs ps
      obtain ⟨hM', fr, e22, e24, x0, x1, pr⟩ := id ps
      have e29 : N' 56 29 = (b : Int) := (fr 56 29 (by unfold WPp; omega)).trans hb
      have nN : ∀ (q : Nat) (i : Int), 59 ≤ q → q ≤ 63 → 0 ≤ i → i < a → N' q i = N q i := fun q i q1 q2 _ _ => fr q i (by unfold WPp; omega)
      have nS : ∀ (q : Nat) (i : Int), 64 ≤ q → q ≤ 67 → 0 ≤ i → i < b → N' q i = N q i := fun q i q1 q2 _ _ => fr q i (by unfold WPp; omega)
      have hN' := hN.same nN nS
      have hK' := hK.same nN nS
      obtain ⟨k1, k2, k3, k4⟩ := hK' s (by omega)
      obtain ⟨o, ho⟩ : ∃ o : Nat, N' 67 (s : Int) = (o : Int) := ⟨(N' 67 (s : Int)).toNat, by omega⟩
      have oa : o < a := by omega
      -- the context around
      have fin : ∀ c : Int, c = (if N' 64 (s : Int) < 0 then -1 else N' 77 (N' 64 (s : Int))) → pm_Wp none (d + 3) 187 38 [some (.ref 56), some (.int (zI (s : Int))), o2, o3] [.int (zI c)] (zM N', Rf, K, L, n, s0) Q := by
        intro c hc
        have rc : R32 c := by
          rw [hc]
          by_cases c1 : N' 64 (s : Int) < 0
          · rw [if_pos c1]; exact ⟨by omega, by omega⟩
          · rw [if_neg c1]; exact hM' _ _
        have M1 : ∀ p i, R32 (mset N' 77 (s : Int) c p i) := mset_R32 hM' rc
        have fr1 : PPF N (mset N' 77 (s : Int) c) := fr.set (by unfold WPp; omega)
        have r59 := hM' 59 (o : Int)
        have bind : N' 59 (o : Int) = 6 ∨ N' 59 (o : Int) = 8 → pm_Wp none (d + 3) 187 70 [some (.ref 56), some (.int (zI (s : Int))), some (.int (zI c)), some (.int (zI (N' 59 (o : Int))))] [] (zM (mset N' 77 (s : Int) c), Rf, K, L, n, s0) Q := by
          intro hk
          obtain ⟨f, t, Γ, Δ, ch, hat, g2, g3, g4, g5, g6, g7, g8, g9⟩ := hN'.bdr aT hK' (by omega) ho hk
          refine m_prep_bind hG b60 a60 (by omega) ps ho (by rw [← ho]; exact k4) hk rc hat g2 g3 g4.len g5 g6 g7 g8 g9 ?_ (fun o2 o3 N1 x1 p1 => ih (s + 1) o2 o3 N1 x1 (by omega) p1)
          rw [hc]
          exact PRk.ctx pr g4 k2
        refine wp_istore_n d187_38 (Nat.le_of_ble_eq_true rfl) rfl ?_
        refine wp_aload_n d187_39 rfl ?_
        refine wp_getR (q := 59) d187_40 rfl (hG.o (by decide) rfl) (by decide) (hG.r (by decide +kernel)) (by decide) ?_
        refine wp_aload_n d187_43 rfl ?_
        refine wp_getR (q := 67) d187_44 rfl (hG.o (by decide) rfl) (by decide) (hG.r (by decide +kernel)) (by decide) ?_
        refine wp_iload_n d187_47 rfl ?_
        refine wz_iald (z := 128) (v := (o : Int)) d187_48 (hG.a (by decide) rfl rfl) (by omega) (by omega) (by decide) (ho) ?_
        refine wz_iald (z := 128) (v := N' 59 (o : Int)) d187_49 (hG.a (by decide) rfl rfl) (by omega) (by omega) (by decide) (rfl) ?_
        refine wp_istore_n d187_50 (Nat.le_of_ble_eq_true rfl) rfl ?_
        refine wp_aload_n d187_51 rfl ?_
        refine wp_getR (q := 77) d187_52 rfl (hG.o (by decide) rfl) (by decide) (hG.r (by decide +kernel)) (by decide) ?_
        refine wp_iload_n d187_55 rfl ?_
        refine wp_iload_n d187_56 rfl ?_
        refine wz_iast (z := 64) d187_57 (hG.a (by decide) rfl rfl) (by omega) (by omega) (by decide) ?_
        refine wp_iload_n d187_58 rfl ?_
        refine wz_bipush d187_59 (by decide) ?_
        refine wz_icmp_eq (t := 70) d187_61 (by decide) r59 ⟨by omega, by omega⟩ (fun hb1 => ?_) (fun hb1 => ?_)
        rotate_left
        refine wp_iload_n d187_64 rfl ?_
        refine wz_bipush d187_65 (by decide) ?_
        refine wz_icmp_ne (t := 117) d187_67 (by decide) r59 ⟨by omega, by omega⟩ (fun hb2 => ?_) (fun hb2 => ?_)
        · skip
          -- no binder of the term
          have np : ∀ (f : Nat) (t : Ty) (Γ : List Ty) (Δ : List (Nat × Ty × Nat)), nAt 24 T [] [] o = some (f, t, Γ, Δ) → ¬ (nKd t = 6 ∨ nKd t = 8) := by
            intro f t Γ Δ hat hk
            have := hN'.kd aT oa hat
            omega
          refine wz_iinc d187_117 rfl rfl ?_
          refine wp_goto (t := 6) d187_120 (by decide) ?_
          rw [show (s : Int) + 1 = ((s + 1 : Nat) : Int) by omega]
          refine ih (s + 1) _ _ _ x (by omega) ⟨M1, fr1, (by rw [mset_p _ _ _ _ (by decide)]; exact e22), (by rw [mset_p _ _ _ _ (by decide)]; exact e24), x0, (by have := c8_up N a s; omega), (fun k hk => ?_)⟩
          by_cases ks : k = s
          · subst ks
            intro o' f t Γ Δ g1 g2 g3
            rw [mset_p _ _ _ _ (by decide), ho] at g1
            have : o = o' := by omega
            subst this
            exact absurd g3 (np f t Γ Δ g2)
          · refine (pr k (by omega)).mv (by omega) (fun p i e => mset_p _ _ _ _ (by omega)) (mset_p _ _ _ _ (by decide)) (mset_i _ _ _ _ (by omega)) (by omega) (Int.le_refl _)
        · skip
          have hk : N' 59 (o : Int) = 6 ∨ N' 59 (o : Int) = 8 := Or.inr (by omega)
          exact bind hk
        · skip
          have hk : N' 59 (o : Int) = 6 ∨ N' 59 (o : Int) = 8 := Or.inl (by omega)
          exact bind hk
      refine wp_iload_n d187_6 rfl ?_
      refine wp_aload_n d187_7 rfl ?_
      refine wz_getI (v := (b : Int)) d187_8 rfl (hG.o (by decide) rfl) (by decide) (e29) ?_
      refine wz_icmp_ge (t := 123) d187_11 (by decide) ⟨by omega, by omega⟩ ⟨by omega, by omega⟩ (fun hb => absurd hb (by omega)) (fun _ => ?_)
      refine wp_aload_n d187_14 rfl ?_
      refine wp_getR (q := 64) d187_15 rfl (hG.o (by decide) rfl) (by decide) (hG.r (by decide +kernel)) (by decide) ?_
      refine wp_iload_n d187_18 rfl ?_
      refine wz_iald (z := 128) (v := N' 64 (s : Int)) d187_19 (hG.a (by decide) rfl rfl) (by omega) (by omega) (by decide) (rfl) ?_
      refine wz_if_ge (t := 27) d187_20 (by decide) ⟨by omega, by omega⟩ (fun hb => ?_) (fun hb => ?_)
      · skip
        refine wp_aload_n d187_27 rfl ?_
        refine wp_getR (q := 77) d187_28 rfl (hG.o (by decide) rfl) (by decide) (hG.r (by decide +kernel)) (by decide) ?_
        refine wp_aload_n d187_31 rfl ?_
        refine wp_getR (q := 64) d187_32 rfl (hG.o (by decide) rfl) (by decide) (hG.r (by decide +kernel)) (by decide) ?_
        refine wp_iload_n d187_35 rfl ?_
        refine wz_iald (z := 128) (v := N' 64 (s : Int)) d187_36 (hG.a (by decide) rfl rfl) (by omega) (by omega) (by decide) (rfl) ?_
        refine wz_iald (z := 64) (v := N' 77 (N' 64 (s : Int))) d187_37 (hG.a (by decide) rfl rfl) (by omega) (by omega) (by decide) (rfl) ?_
        exact fin _ (by rw [if_neg (by omega)])
      · skip
        refine wz_iconst d187_23 ?_
        refine wp_goto (t := 38) d187_24 (by decide) ?_
        exact fin _ (by rw [if_pos (by omega)])
  refine wc_in (ls0 := [some (.ref 56), none, none, none]) (by decide) (Nat.le_of_ble_eq_true rfl) rfl rfl ?_
  refine wp_aload_n d187_0 rfl ?_
  refine wp_virt (as := []) (rest := []) d187_1 rfl rfl rfl (hG.o (by decide) rfl) rfl rfl (Nat.le_of_ble_eq_true rfl) ?_
  refine m_begin (d := d + 2) hG ?_
  refine wz_iconst d187_4 ?_
  refine wp_istore_n d187_5 (Nat.le_of_ble_eq_true rfl) rfl ?_
  refine loop b 0 _ _ _ 0 (by omega) ⟨mset_R32 (mset_R32 hM ⟨by omega, by omega⟩) ⟨by omega, by omega⟩, ?_, ?_, mset_s _ _ _ _, (by omega), (by omega), fun k hk => absurd hk (Nat.not_lt_zero _)⟩
  · have r0 : PPF N N := fun _ _ _ => rfl
    exact (r0.set (by unfold WPp; omega)).set (by unfold WPp; omega)
  · rw [mset_i _ _ _ _ (by decide), mset_s]
end PmF4
