/-! THE MODEL: a term is entered. -/
def it64 (N : pm_M) : Nat → Int → Int
  | 0, s => s
  | k + 1, s => it64 N k (N 64 s)
theorem fnd_len {k : Nat} {c : Int} : ∀ {ch l : List (Nat × Int × Nat)}, fnd k c ch = some l → l.length ≤ ch.length
  | [], l, h => by cases h
  | x :: r, l, h => by
    have h : (if x.1 = k ∧ x.2.1 = c then some (x :: r) else fnd k c r) = some l := h
    by_cases e : x.1 = k ∧ x.2.1 = c
    · rw [if_pos e] at h; cases h; exact Nat.le_refl _
    · rw [if_neg e] at h
      have := fnd_len h
      rw [List.length_cons]; omega
theorem bnr_mem {c : Int} {m : Nat} : ∀ {ch : List (Nat × Int × Nat)}, bnr ch c = some m → m ∈ lch ch
  | [], h => by cases h
  | x :: r, h => by
    have h : (if x.1 = 1 ∧ x.2.1 = c then some x.2.2 else bnr r c) = some m := h
    show m ∈ (if x.1 = 1 then x.2.2 :: lch r else lch r)
    by_cases e : x.1 = 1 ∧ x.2.1 = c
    · rw [if_pos e] at h
      cases h
      rw [if_pos e.1]; exact List.mem_cons_self
    · rw [if_neg e] at h
      have := bnr_mem h
      by_cases e1 : x.1 = 1
      · rw [if_pos e1]; exact List.mem_cons_of_mem _ this
      · rw [if_neg e1]; exact this
theorem it64_le {N : pm_M} {a b : Nat} : ∀ {k : Nat} {s : Int} {ch : List (Nat × Int × Nat)}, SCh 0 N a b s ch → k < ch.length → it64 N k s ≤ s
  | 0, s, ch, _, _ => Int.le_refl _
  | k + 1, s, [], _, h => absurd h (Nat.not_lt_zero _)
  | k + 1, s, x :: r, ⟨_, _, _, _, h5, _, _, h8⟩, h => by
    have := it64_le (k := k) h8 (by rw [List.length_cons] at h; omega)
    show it64 N k (N 64 s) ≤ s
    omega
/-- what may be written by a move -/
def MKr (N N' : pm_M) : Prop := ∀ (p : Nat) (i : Int), ¬ (p = 56 ∧ ((46 ≤ i ∧ i ≤ 50) ∨ i = 54 ∨ i = 59)) → ¬ (87 ≤ p ∧ p ≤ 97) → N' p i = N p i
theorem MKr.refl (N : pm_M) : MKr N N := fun _ _ _ _ => rfl
theorem MKr.set {N N1 : pm_M} {p : Nat} {i v : Int} (h : MKr N N1) (hp : (p = 56 ∧ ((46 ≤ i ∧ i ≤ 50) ∨ i = 54 ∨ i = 59)) ∨ (87 ≤ p ∧ p ≤ 97)) : MKr N (mset N1 p i v) := by
  intro q k h1 h2
  unfold mset
  rw [if_neg (fun e => by rw [e.1, e.2] at h1; rw [e.1] at h2; rcases hp with e | e; exact h1 e; exact h2 e)]
  exact h q k h1 h2
theorem it64_R32 {N : pm_M} (hM : ∀ p i, R32 (N p i)) : ∀ {k : Nat} {s : Int}, R32 s → R32 (it64 N k s)
  | 0, _, h => h
  | k + 1, s, _ => it64_R32 hM (k := k) (hM 64 s)
section PmG9
variable {d : Nat} {Q : Option Value → pm_S → Prop} {N : pm_M} {Rf : Nat → Nat → Nat} {K L : Nat → Nat} {n s0 : Nat} {a b : Nat}
theorem env_loop {es m : Nat} {H : Int → Option Ty} {bs c mb : Int} (hG : pm_G Rf K L n) (hM : ∀ p i, R32 (N p i)) (e4 : es ≤ 4000) : ∀ (ch : List (Nat × Int × Nat)) (ρ : Ty) (e s : Int) (k : Nat), EA N es H ch ρ e s → SCh 0 N a b s ch → DCl (lch ch) → fnd 1 c ch = some (ch.drop k) → k < ch.length → it64 N k s = bs → bnr ch c = some m → ∃ v, elk ρ m = some v ∧ ((∀ e' : Int, 0 ≤ e' → e' < es → H (N 88 e') = some v → pm_Wp none d 203 127 [some (.ref 56), some (.int (zI mb)), some (.int (zI 5)), some (.int (zI bs)), some (.int (zI e'))] [] (zM N, Rf, K, L, n, s0) Q) → pm_Wp none d 203 104 [some (.ref 56), some (.int (zI mb)), some (.int (zI 5)), some (.int (zI bs)), some (.int (zI e))] [] (zM N, Rf, K, L, n, s0) Q)
  | [], _, _, _, _, _, _, _, h, _, _, _ => by cases h
  | x :: r, ρ, e, s, k, hE, hS, hD, hf, hl, hb, hm => by
    have hf : (if x.1 = 1 ∧ x.2.1 = c then some (x :: r) else fnd 1 c r) = some ((x :: r).drop k) := hf
    have hm : (if x.1 = 1 ∧ x.2.1 = c then some x.2.2 else bnr r c) = some m := hm
    have hE : if x.1 = 1 then (0 ≤ e ∧ e < es) ∧ N 87 e = s ∧ ∃ v ρ', ρ = eN x.2.2 v ρ' ∧ H (N 88 e) = some v ∧ EA N es H r ρ' (N 89 e) (N 64 s) else EA N es H r ρ e (N 64 s) := hE
    have hD : DCl (if x.1 = 1 then x.2.2 :: lch r else lch r) := hD
    obtain ⟨g1, g2, g3, g4, g5, g6, g7, g8⟩ := hS
    have r7 := hM 87 e
    by_cases hx : x.1 = 1 ∧ x.2.1 = c
    · rw [if_pos hx] at hf hm
      rw [if_pos hx.1] at hE
      obtain ⟨q1, q2, v, ρ', q3, q4, q5⟩ := hE
      have hk : k = 0 := by
        injection hf with hf
        have := congrArg List.length hf
        rw [List.length_drop] at this
        omega
      subst hk
      have hb : s = bs := hb
      injection hm with hm
      refine ⟨v, by rw [q3, elk_eN, if_pos hm], fun hQ => ?_⟩
      refine wp_aload_n d203_104 rfl ?_
      refine wp_getR (q := 87) d203_105 rfl (hG.o (by decide) rfl) (by decide) (hG.r (by decide +kernel)) (by decide) ?_
      refine wp_iload d203_108 rfl ?_
      refine wz_iald (z := 4000) (v := s) d203_110 (hG.a (by decide) rfl rfl) (by omega) (by omega) (by decide) (q2) ?_
      refine wp_iload_n d203_111 rfl ?_
      have rb : R32 bs := by rw [← hb, ← q2]; exact r7
      have rs : R32 s := by rw [← q2]; exact r7
      refine wz_icmp_eq (t := 127) d203_112 (by decide) rs rb (fun _ => ?_) (fun hb => absurd (by omega) hb)
      exact hQ e q1.1 q1.2 q4
    · rw [if_neg hx] at hf hm
      have hk : k ≠ 0 := by
        intro e0
        subst e0
        have := fnd_len hf
        rw [List.drop_zero, List.length_cons] at this
        omega
      obtain ⟨k', rfl⟩ : ∃ k', k = k' + 1 := ⟨k - 1, by omega⟩
      rw [List.drop_succ_cons] at hf
      rw [List.length_cons] at hl
      have hb : it64 N k' (N 64 s) = bs := hb
      have lt := it64_le (k := k') g8 (by omega)
      by_cases h1 : x.1 = 1
      · rw [if_pos h1] at hE hD
        obtain ⟨q1, q2, v, ρ', q3, q4, q5⟩ := hE
        obtain ⟨v2, i1, i2⟩ := env_loop hG hM e4 r ρ' (N 89 e) (N 64 s) k' q5 g8 hD.2 hf (by omega) hb hm
        have hlt := hD.1 m (bnr_mem hm)
        refine ⟨v2, by rw [q3, elk_eN, if_neg (by omega)]; exact i1, fun hQ => ?_⟩
        refine wp_aload_n d203_104 rfl ?_
        refine wp_getR (q := 87) d203_105 rfl (hG.o (by decide) rfl) (by decide) (hG.r (by decide +kernel)) (by decide) ?_
        refine wp_iload d203_108 rfl ?_
        refine wz_iald (z := 4000) (v := s) d203_110 (hG.a (by decide) rfl rfl) (by omega) (by omega) (by decide) (q2) ?_
        refine wp_iload_n d203_111 rfl ?_
        have rs : R32 s := by rw [← q2]; exact r7
        have rb : R32 bs := by have g10 := g1.1; have g11 := rs.2; have g12 := rs.1; have g13 := hM 64 s; exact ⟨by rw [← hb]; have := it64_R32 (k := k') (N := N) hM (hM 64 s); exact this.1, by omega⟩
        refine wz_icmp_eq (t := 127) d203_112 (by decide) rs rb (fun hb => absurd hb (by omega)) (fun _ => ?_)
        refine wp_aload_n d203_115 rfl ?_
        refine wp_getR (q := 89) d203_116 rfl (hG.o (by decide) rfl) (by decide) (hG.r (by decide +kernel)) (by decide) ?_
        refine wp_iload d203_119 rfl ?_
        refine wz_iald (z := 4000) (v := N 89 e) d203_121 (hG.a (by decide) rfl rfl) (by omega) (by omega) (by decide) (rfl) ?_
        refine wp_istore d203_122 (Nat.le_of_ble_eq_true rfl) rfl ?_
        refine wp_goto (t := 104) d203_124 (by decide) ?_
        exact i2 hQ
      · rw [if_neg h1] at hE hD
        exact env_loop hG hM e4 r ρ e (N 64 s) k' hE g8 hD hf (by omega) hb hm
end PmG9
