/-! THE MODEL: reading; what each expectation does. -/
variable {lo : Nat}
def lowc (k : Nat) : Int := if k = 0 then 80 else 97
/-- the binders around, innermost first: kind, name, place -/
def SCh (lo : Nat) (N : pm_M) (nd sc : Nat) : Int → List (Nat × Int × Nat) → Prop
  | s, [] => s = -1
  | s, a :: r => ((lo : Int) ≤ s ∧ s < sc) ∧ N 65 s = (a.1 : Int) ∧ N 66 s = a.2.1 - lowc a.1 ∧ a.1 ≤ 1 ∧ N 64 s < s ∧ (((lo : Int) ≤ N 67 s ∧ N 67 s < nd) ∧ N 63 (N 67 s) = s) ∧ N 61 (N 67 s) = (a.2.2 : Int) ∧ SCh lo N nd sc (N 64 s) r
theorem SCh.same {nd sc k : Nat} {N N' : pm_M} (h : MFr nd sc k N N') : ∀ {ch : List (Nat × Int × Nat)} {s : Int}, SCh lo N nd sc s ch → SCh lo N' nd sc s ch
  | [], _, e => e
  | a :: r, s, ⟨h1, h2, h3, h4, h5, h6, h7, h8⟩ => by
    have e64 : N' 64 s = N 64 s := h 64 s (by unfold WMr; omega)
    have e67 : N' 67 s = N 67 s := h 67 s (by unfold WMr; omega)
    refine ⟨h1, (h 65 s (by unfold WMr; omega)).trans h2, (h 66 s (by unfold WMr; omega)).trans h3, h4, by rw [e64]; exact h5, ⟨by rw [e67]; exact h6.1, by rw [e67, h 63 _ (by unfold WMr; omega)]; exact h6.2⟩, ?_, ?_⟩
    · rw [e67, h 61 _ (by unfold WMr; omega)]; exact h7
    · rw [e64]; exact SCh.same h h8
theorem SCh.up {nd sc nd' sc' : Nat} {N : pm_M} (h1 : nd ≤ nd') (h2 : sc ≤ sc') : ∀ {ch : List (Nat × Int × Nat)} {s : Int}, SCh lo N nd sc s ch → SCh lo N nd' sc' s ch
  | [], _, e => e
  | a :: r, s, ⟨g1, g2, g3, g4, g5, g6, g7, g8⟩ => ⟨⟨g1.1, by omega⟩, g2, g3, g4, g5, ⟨⟨g6.1.1, by omega⟩, g6.2⟩, g7, SCh.up h1 h2 g8⟩
theorem SCh.rng {nd sc : Nat} {N : pm_M} {ch : List (Nat × Int × Nat)} {s : Int} (h : SCh lo N nd sc s ch) : -1 ≤ s ∧ s < sc := by
  match ch, h with
  | [], h =>
    have h : s = -1 := h
    omega
  | a :: r, ⟨g1, _⟩ => omega
/-- node j is a type's node with that code; b: its name is open -/
def NT (lo : Nat) (N : pm_M) (nd sc : Nat) (j : Int) (c : Int) (b : Bool) : Prop := (b = true ∧ N 59 j = c ∧ 0 ≤ c ∧ c ≤ 2) ∨ (b = true ∧ N 59 j = 4 ∧ N 60 j = c - 8 ∧ 8 ≤ c ∧ c < 16) ∨ (N 59 j = 3 ∧ (0 ≤ N 60 j ∧ N 60 j ≤ 3) ∧ ∃ ch, SCh lo N nd sc (N 62 j) ch ∧ b = (lvl (tnm ch) (80 + N 60 j)).isSome ∧ c = 16 + (((lvl (tnm ch) (80 + N 60 j)).getD 0 : Nat) : Int))
def NTl (lo : Nat) (N : pm_M) (nd sc : Nat) : Nat → List Int → Bool → Prop
  | _, [], b => b = true
  | i, c :: l, b => ∃ b1 b2, NT lo N nd sc (i : Int) c b1 ∧ NTl lo N nd sc (i + 1) l b2 ∧ b = (b1 && b2)
theorem NT.move {nd sc nd' sc' nd2 sc2 k : Nat} {N N' : pm_M} {j : Nat} {c : Int} {b : Bool} (h : MFr nd2 sc2 k N N') (hj : j < nd2) (h1 : nd ≤ nd2) (h2 : sc ≤ sc2) (h3 : nd ≤ nd') (h4 : sc ≤ sc') (t : NT lo N nd sc (j : Int) c b) : NT lo N' nd' sc' (j : Int) c b := by
  have e59 : N' 59 (j : Int) = N 59 (j : Int) := h 59 _ (by unfold WMr; omega)
  have e60 : N' 60 (j : Int) = N 60 (j : Int) := h 60 _ (by unfold WMr; omega)
  have e62 : N' 62 (j : Int) = N 62 (j : Int) := h 62 _ (by unfold WMr; omega)
  unfold NT at *
  rw [e59, e60, e62]
  rcases t with t | t | ⟨t1, t2, ch, t3, t4⟩
  · exact Or.inl t
  · exact Or.inr (Or.inl t)
  · exact Or.inr (Or.inr ⟨t1, t2, ch, ((t3.same (h.low h1 h2 (Nat.zero_le _))).up h3 h4), t4⟩)
theorem NTl.move {nd sc nd' sc' nd2 sc2 k : Nat} {N N' : pm_M} (h : MFr nd2 sc2 k N N') (h1 : nd ≤ nd2) (h2 : sc ≤ sc2) (h3 : nd ≤ nd') (h4 : sc ≤ sc') : ∀ {l : List Int} {i : Nat} {b : Bool}, i + l.length ≤ nd2 → NTl lo N nd sc i l b → NTl lo N' nd' sc' i l b
  | [], _, _, _, t => t
  | c :: l, i, b, hi, ⟨b1, b2, t1, t2, t3⟩ => by
    rw [List.length_cons] at hi
    exact ⟨b1, b2, t1.move h (by omega) h1 h2 h3 h4, NTl.move h h1 h2 h3 h4 (by omega) t2, t3⟩
theorem NTl.app {N : pm_M} {nd sc : Nat} : ∀ {l1 l2 : List Int} {i : Nat} {b1 b2 : Bool}, NTl lo N nd sc i l1 b1 → NTl lo N nd sc (i + l1.length) l2 b2 → NTl lo N nd sc i (l1 ++ l2) (b1 && b2)
  | [], l2, i, b1, b2, h1, h2 => by
    have h1 : b1 = true := h1
    subst h1
    exact h2
  | c :: l1, l2, i, b1, b2, ⟨c1, c2, t1, t2, t3⟩, h2 => by
    subst t3
    refine ⟨c1, c2 && b2, t1, NTl.app t2 ?_, Bool.and_assoc _ _ _⟩
    rw [List.length_cons, show i + (l1.length + 1) = i + 1 + l1.length by omega] at h2
    exact h2
/-- where the reading stands -/
def MS (tx : Nat → Int) (ln : Nat) (N : pm_M) (p nd sc : Nat) (l : List (Int × Int × Int × Int)) : Prop := (∀ p i, R32 (N p i)) ∧ MT N tx ln ∧ p ≤ ln ∧ N 56 5 = (nd : Int) ∧ N 56 11 = (sc : Int) ∧ N 56 16 = (l.length : Int) ∧ EX N l ∧ 64 ≤ nd ∧ nd ≤ 64 + p ∧ 64 ≤ sc ∧ sc ≤ 64 + p
def LH (d : Nat) (wt : Int) (p : Nat) (σ : pm_S) (Q : Option Value → pm_S → Prop) : Prop := pm_Wp none d 143 27 [some (.ref 56), some (.int (zI wt)), some (.int (zI (p : Int)))] [] σ Q
section PmM29
variable {tx : Nat → Int} {ln : Nat} {d : Nat} {Q : Option Value → pm_S → Prop} {N : pm_M} {Rf : Nat → Nat → Nat} {K L : Nat → Nat} {n s0 : Nat} {nd sc p : Nat} {wt : Int} {l : List (Int × Int × Int × Int)}
theorem MS.pop {x : Int × Int × Int × Int} (h : MS tx ln N p nd sc (x :: l)) (hp : p < ln) : MS tx ln (mset N 56 16 (l.length : Int)) (p + 1) nd sc l ∧ MFr nd sc l.length N (mset N 56 16 (l.length : Int)) := by
  obtain ⟨h1, h2, h3, h4, h5, h6, h7, h8, h9, h10, h11⟩ := h
  have fr : ∀ a b c, MFr a b c N (mset N 56 16 (l.length : Int)) := fun a b c => (MFr.refl N).set (by unfold WMr; omega)
  have l60 : (x :: l).length < 2147483648 := by
    have := h1 56 16
    rw [h6] at this
    have := this.2
    omega
  rw [List.length_cons] at l60
  exact ⟨⟨mset_R32 h1 ⟨by omega, by omega⟩, MT.same (fr 0 0 0) h2, by omega, by rw [mset_i _ _ _ _ (by decide)]; exact h4, by rw [mset_i _ _ _ _ (by decide)]; exact h5, mset_s _ _ _ _, EX.same (fr 0 0 l.length) (Nat.le_refl _) h7.2.2.2.2, h8, by omega, h10, by omega⟩, fr _ _ _⟩
/-- a single character -/
theorem l_char {a b c f : Int} (hG : pm_G Rf K L n) (h : MS tx ln N p nd sc ((a, b, c, f) :: l)) (hl : l.length < 250) (ha : a = 41 ∨ a = 62 ∨ a = 58 ∨ a = 46 ∨ a = 61) (h1 : chr tx ln p = a → p < ln → ∀ N' : pm_M, MS tx ln N' (p + 1) nd sc l → (∀ a b c, MFr a b c N N') → LH (d + 1) wt (p + 1) (zM N', Rf, K, L, n, s0) Q) (h0 : chr tx ln p ≠ a → ∀ N' : pm_M, (∀ a b c, MFr a b c N N') → (∀ p i, R32 (N' p i)) → Q (some (.int (zI (p : Int)))) (zM N', Rf, K, L, n, s0)) : LH (d + 1) wt p (zM N, Rf, K, L, n, s0) Q := by
  have fr : ∀ a b c, MFr a b c N (mset N 56 16 (l.length : Int)) := fun a b c => (MFr.refl N).set (by unfold WMr; omega)
  refine m_char hG h.2.1 h.2.2.1 h.2.2.2.2.2.1 hl h.2.2.2.2.2.2.1 ha (fun e hp => h1 e hp _ (h.pop hp).1 fr) (fun e N' hN => ?_)
  rcases hN with rfl | rfl
  · exact h0 e _ (fun a b c => MFr.refl _) h.1
  · exact h0 e _ fr (mset_R32 h.1 ⟨by omega, by omega⟩)

/-- a name is expected (202) -/
theorem l_name202 {b c : Int} {m sc0 : Nat} (hG : pm_G Rf K L n) (h : MS tx ln N p nd sc ((202, b, c, (m : Int)) :: l)) (hl : l.length < 250) (hm : m < 128) {e : Nat} (hb : N 63 (m : Int) = (e : Int)) (hsc : sc0 ≤ e) (he : e < 128) (h1 : 80 ≤ chr tx ln p ∧ chr tx ln p ≤ 83 → p < ln → ∀ N' : pm_M, MS tx ln N' (p + 1) nd sc l → (∀ a c, MFr a sc0 c N N') → N' 66 e = chr tx ln p - 80 → (∀ q i, q ≠ 66 → q ≠ 56 → N' q i = N q i) → LH (d + 1) wt (p + 1) (zM N', Rf, K, L, n, s0) Q) (h0 : ¬ (80 ≤ chr tx ln p ∧ chr tx ln p ≤ 83) → ∀ N' : pm_M, (∀ a c, MFr a sc0 c N N') → (∀ p i, R32 (N' p i)) → Q (some (.int (zI (p : Int)))) (zM N', Rf, K, L, n, s0)) : LH (d + 1) wt p (zM N, Rf, K, L, n, s0) Q := by
  have hc := h.2.1.cha p
  have l60 := h.2.1.2.1
  have hpl := h.2.2.1
  by_cases hlt : p < ln
  · refine m_step hG h.2.1 hlt ?_
    refine m_takeH hG h.2.2.2.2.2.1 hl h.2.2.2.2.2.2.1 ?_
    obtain ⟨P1, P2⟩ := h.pop hlt
    have fr : ∀ a c, MFr a sc0 c N (mset (mset N 56 16 (l.length : Int)) 66 (e : Int) (chr tx ln p - 80)) := fun a c => ((MFr.refl N).set (by unfold WMr; omega)).set (by unfold WMr; omega)
    have r32 : ∀ p' i, R32 (mset (mset N 56 16 (l.length : Int)) 66 (e : Int) (chr tx ln p - 80) p' i) := mset_R32 P1.1 ⟨by omega, by omega⟩
    have key : ∀ v : Int, (v = 1 ∧ (80 ≤ chr tx ln p ∧ chr tx ln p ≤ 83)) ∨ (v = 0 ∧ ¬ (80 ≤ chr tx ln p ∧ chr tx ln p ≤ 83)) → pm_Wp none (d + 1) 143 46 [some (.ref 56), some (.int (zI wt)), some (.int (zI (p : Int)))] [.int (zI v)] (zM (mset (mset N 56 16 (l.length : Int)) 66 (e : Int) (chr tx ln p - 80)), Rf, K, L, n, s0) Q := by
      intro v hv
      rcases hv with ⟨rfl, e'⟩ | ⟨rfl, e'⟩
      · refine m_go1 (by omega) (h1 e' hlt _ ?_ fr (mset_s _ _ _ _) (fun q i q1 q2 => by unfold mset; rw [if_neg (by omega), if_neg (by omega)]))
        have fr2 : ∀ a b c, b ≤ e → MFr a b c (mset N 56 16 (l.length : Int)) (mset (mset N 56 16 (l.length : Int)) 66 (e : Int) (chr tx ln p - 80)) := fun a b c hbe => (MFr.refl _).set (by unfold WMr; omega)
        obtain ⟨g1, g2, g3, g4, g5, g6, g7, g8, g9, g10, g11⟩ := P1
        exact ⟨r32, MT.same (fr2 0 0 0 (Nat.zero_le _)) g2, g3, by rw [mset_p _ _ _ _ (by decide)]; exact g4, by rw [mset_p _ _ _ _ (by decide)]; exact g5, by rw [mset_p _ _ _ _ (by decide)]; exact g6, EX.same (fr2 0 0 l.length (Nat.zero_le _)) (Nat.le_refl _) g7, g8, g9, g10, g11⟩
      · exact m_go0 (h0 e' _ fr r32)
    have et : tx p = chr tx ln p := by omega
    rw [et]
    refine wp_iload_n d142_62 rfl ?_
    refine wz_sipush d142_63 (by decide) ?_
    refine wz_icmp_ne (t := 80) d142_66 (by decide) ⟨by omega, by omega⟩ ⟨by omega, by omega⟩ (fun _ => ?_) (fun hb => absurd hb (by decide))
    refine wp_iload_n d142_80 rfl ?_
    refine wz_sipush d142_81 (by decide) ?_
    refine wz_icmp_ne (t := 98) d142_84 (by decide) ⟨by omega, by omega⟩ ⟨by omega, by omega⟩ (fun _ => ?_) (fun hb => absurd hb (by decide))
    refine wp_iload_n d142_98 rfl ?_
    refine wz_sipush d142_99 (by decide) ?_
    refine wz_icmp_eq (t := 112) d142_102 (by decide) ⟨by omega, by omega⟩ ⟨by omega, by omega⟩ (fun _ => ?_) (fun hb => absurd (by decide) hb)
    refine wp_iload_n d142_112 rfl ?_
    refine wz_sipush d142_113 (by decide) ?_
    refine wz_icmp_ne (t := 124) d142_116 (by decide) ⟨by omega, by omega⟩ ⟨by omega, by omega⟩ (fun hb => absurd (by decide) hb) (fun _ => ?_)
    refine wz_bipush d142_119 (by decide) ?_
    refine wp_goto (t := 126) d142_121 (by decide) ?_
    refine wp_istore d142_126 (Nat.le_of_ble_eq_true rfl) rfl ?_
    refine wp_aload_n d142_128 rfl ?_
    refine wp_getR (q := 66) d142_129 rfl (hG.o (by decide) rfl) (by decide) (hG.r (by decide +kernel)) (by decide) ?_
    refine wp_aload_n d142_132 rfl ?_
    refine wp_getR (q := 63) d142_133 rfl (hG.o (by decide) rfl) (by decide) (hG.r (by decide +kernel)) (by decide) ?_
    refine wp_iload d142_136 rfl ?_
    refine wz_iald (z := 128) (v := (e : Int)) d142_138 (hG.a (by decide) rfl rfl) (by omega) (by omega) (by decide) ((mset_p _ _ _ _ (by decide)).trans hb) ?_
    refine wp_iload_n d142_139 rfl ?_
    refine wp_iload d142_140 rfl ?_
    refine wz_isub d142_142 ?_
    refine wz_iast (z := 128) d142_143 (hG.a (by decide) rfl rfl) (by omega) (by omega) (by decide) ?_
    refine wp_iload_n d142_144 rfl ?_
    refine wp_iload d142_145 rfl ?_
    refine wz_icmp_lt (t := 162) d142_147 (by decide) ⟨by omega, by omega⟩ ⟨by omega, by omega⟩ (fun hb1 => ?_) (fun hb1 => ?_)
    · skip
      refine wz_iconst d142_162 ?_
      exact wp_ret d142_163 rfl (key 0 (Or.inr ⟨rfl, by omega⟩))
    refine wp_iload_n d142_150 rfl ?_
    refine wp_iload d142_151 rfl ?_
    refine wz_iconst d142_153 ?_
    refine wz_iadd d142_154 ?_
    refine wz_icmp_gt (t := 162) d142_155 (by decide) ⟨by omega, by omega⟩ ⟨by omega, by omega⟩ (fun hb2 => ?_) (fun hb2 => ?_)
    · skip
      refine wz_iconst d142_162 ?_
      exact wp_ret d142_163 rfl (key 0 (Or.inr ⟨rfl, by omega⟩))
    · skip
      refine wz_iconst d142_158 ?_
      refine wp_goto (t := 163) d142_159 (by decide) ?_
      exact wp_ret d142_163 rfl (key 1 (Or.inl ⟨rfl, by omega, by omega⟩))
  · have e : p = ln := by omega
    have he := h.2.2.2.2.2.1
    rw [List.length_cons] at he
    refine m_over hG h.2.1 e he (by omega) (fun _ => ?_) (fun e => by omega)
    rw [← e]
    exact h0 (by omega) N (fun a c => MFr.refl _) h.1
/-- a name is expected (203) -/
theorem l_name203 {b c : Int} {m sc0 : Nat} (hG : pm_G Rf K L n) (h : MS tx ln N p nd sc ((203, b, c, (m : Int)) :: l)) (hl : l.length < 250) (hm : m < 128) {e : Nat} (hb : N 63 (m : Int) = (e : Int)) (hsc : sc0 ≤ e) (he : e < 128) (h1 : 97 ≤ chr tx ln p ∧ chr tx ln p ≤ 100 → p < ln → ∀ N' : pm_M, MS tx ln N' (p + 1) nd sc l → (∀ a c, MFr a sc0 c N N') → N' 66 e = chr tx ln p - 97 → (∀ q i, q ≠ 66 → q ≠ 56 → N' q i = N q i) → LH (d + 1) wt (p + 1) (zM N', Rf, K, L, n, s0) Q) (h0 : ¬ (97 ≤ chr tx ln p ∧ chr tx ln p ≤ 100) → ∀ N' : pm_M, (∀ a c, MFr a sc0 c N N') → (∀ p i, R32 (N' p i)) → Q (some (.int (zI (p : Int)))) (zM N', Rf, K, L, n, s0)) : LH (d + 1) wt p (zM N, Rf, K, L, n, s0) Q := by
  have hc := h.2.1.cha p
  have l60 := h.2.1.2.1
  have hpl := h.2.2.1
  by_cases hlt : p < ln
  · refine m_step hG h.2.1 hlt ?_
    refine m_takeH hG h.2.2.2.2.2.1 hl h.2.2.2.2.2.2.1 ?_
    obtain ⟨P1, P2⟩ := h.pop hlt
    have fr : ∀ a c, MFr a sc0 c N (mset (mset N 56 16 (l.length : Int)) 66 (e : Int) (chr tx ln p - 97)) := fun a c => ((MFr.refl N).set (by unfold WMr; omega)).set (by unfold WMr; omega)
    have r32 : ∀ p' i, R32 (mset (mset N 56 16 (l.length : Int)) 66 (e : Int) (chr tx ln p - 97) p' i) := mset_R32 P1.1 ⟨by omega, by omega⟩
    have key : ∀ v : Int, (v = 1 ∧ (97 ≤ chr tx ln p ∧ chr tx ln p ≤ 100)) ∨ (v = 0 ∧ ¬ (97 ≤ chr tx ln p ∧ chr tx ln p ≤ 100)) → pm_Wp none (d + 1) 143 46 [some (.ref 56), some (.int (zI wt)), some (.int (zI (p : Int)))] [.int (zI v)] (zM (mset (mset N 56 16 (l.length : Int)) 66 (e : Int) (chr tx ln p - 97)), Rf, K, L, n, s0) Q := by
      intro v hv
      rcases hv with ⟨rfl, e'⟩ | ⟨rfl, e'⟩
      · refine m_go1 (by omega) (h1 e' hlt _ ?_ fr (mset_s _ _ _ _) (fun q i q1 q2 => by unfold mset; rw [if_neg (by omega), if_neg (by omega)]))
        have fr2 : ∀ a b c, b ≤ e → MFr a b c (mset N 56 16 (l.length : Int)) (mset (mset N 56 16 (l.length : Int)) 66 (e : Int) (chr tx ln p - 97)) := fun a b c hbe => (MFr.refl _).set (by unfold WMr; omega)
        obtain ⟨g1, g2, g3, g4, g5, g6, g7, g8, g9, g10, g11⟩ := P1
        exact ⟨r32, MT.same (fr2 0 0 0 (Nat.zero_le _)) g2, g3, by rw [mset_p _ _ _ _ (by decide)]; exact g4, by rw [mset_p _ _ _ _ (by decide)]; exact g5, by rw [mset_p _ _ _ _ (by decide)]; exact g6, EX.same (fr2 0 0 l.length (Nat.zero_le _)) (Nat.le_refl _) g7, g8, g9, g10, g11⟩
      · exact m_go0 (h0 e' _ fr r32)
    have et : tx p = chr tx ln p := by omega
    rw [et]
    refine wp_iload_n d142_62 rfl ?_
    refine wz_sipush d142_63 (by decide) ?_
    refine wz_icmp_ne (t := 80) d142_66 (by decide) ⟨by omega, by omega⟩ ⟨by omega, by omega⟩ (fun _ => ?_) (fun hb => absurd hb (by decide))
    refine wp_iload_n d142_80 rfl ?_
    refine wz_sipush d142_81 (by decide) ?_
    refine wz_icmp_ne (t := 98) d142_84 (by decide) ⟨by omega, by omega⟩ ⟨by omega, by omega⟩ (fun _ => ?_) (fun hb => absurd hb (by decide))
    refine wp_iload_n d142_98 rfl ?_
    refine wz_sipush d142_99 (by decide) ?_
    refine wz_icmp_eq (t := 112) d142_102 (by decide) ⟨by omega, by omega⟩ ⟨by omega, by omega⟩ (fun hb => absurd hb (by decide)) (fun _ => ?_)
    refine wp_iload_n d142_105 rfl ?_
    refine wz_sipush d142_106 (by decide) ?_
    refine wz_icmp_ne (t := 164) d142_109 (by decide) ⟨by omega, by omega⟩ ⟨by omega, by omega⟩ (fun hb => absurd (by decide) hb) (fun _ => ?_)
    refine wp_iload_n d142_112 rfl ?_
    refine wz_sipush d142_113 (by decide) ?_
    refine wz_icmp_ne (t := 124) d142_116 (by decide) ⟨by omega, by omega⟩ ⟨by omega, by omega⟩ (fun _ => ?_) (fun hb => absurd hb (by decide))
    refine wz_bipush d142_124 (by decide) ?_
    refine wp_istore d142_126 (Nat.le_of_ble_eq_true rfl) rfl ?_
    refine wp_aload_n d142_128 rfl ?_
    refine wp_getR (q := 66) d142_129 rfl (hG.o (by decide) rfl) (by decide) (hG.r (by decide +kernel)) (by decide) ?_
    refine wp_aload_n d142_132 rfl ?_
    refine wp_getR (q := 63) d142_133 rfl (hG.o (by decide) rfl) (by decide) (hG.r (by decide +kernel)) (by decide) ?_
    refine wp_iload d142_136 rfl ?_
    refine wz_iald (z := 128) (v := (e : Int)) d142_138 (hG.a (by decide) rfl rfl) (by omega) (by omega) (by decide) ((mset_p _ _ _ _ (by decide)).trans hb) ?_
    refine wp_iload_n d142_139 rfl ?_
    refine wp_iload d142_140 rfl ?_
    refine wz_isub d142_142 ?_
    refine wz_iast (z := 128) d142_143 (hG.a (by decide) rfl rfl) (by omega) (by omega) (by decide) ?_
    refine wp_iload_n d142_144 rfl ?_
    refine wp_iload d142_145 rfl ?_
    refine wz_icmp_lt (t := 162) d142_147 (by decide) ⟨by omega, by omega⟩ ⟨by omega, by omega⟩ (fun hb1 => ?_) (fun hb1 => ?_)
    · skip
      refine wz_iconst d142_162 ?_
      exact wp_ret d142_163 rfl (key 0 (Or.inr ⟨rfl, by omega⟩))
    refine wp_iload_n d142_150 rfl ?_
    refine wp_iload d142_151 rfl ?_
    refine wz_iconst d142_153 ?_
    refine wz_iadd d142_154 ?_
    refine wz_icmp_gt (t := 162) d142_155 (by decide) ⟨by omega, by omega⟩ ⟨by omega, by omega⟩ (fun hb2 => ?_) (fun hb2 => ?_)
    · skip
      refine wz_iconst d142_162 ?_
      exact wp_ret d142_163 rfl (key 0 (Or.inr ⟨rfl, by omega⟩))
    · skip
      refine wz_iconst d142_158 ?_
      refine wp_goto (t := 163) d142_159 (by decide) ?_
      exact wp_ret d142_163 rfl (key 1 (Or.inl ⟨rfl, by omega, by omega⟩))
  · have e : p = ln := by omega
    have he := h.2.2.2.2.2.1
    rw [List.length_cons] at he
    refine m_over hG h.2.1 e he (by omega) (fun _ => ?_) (fun e => by omega)
    rw [← e]
    exact h0 (by omega) N (fun a c => MFr.refl _) h.1
end PmM29
