/-! COMPARISONS TAKE ONE ROW LESS AT EACH NODE: with chains of 1 + e they take what joins take with chains of e. -/
theorem pmz_nz' {e : Nat} : ∀ (f : Nat) (t : Ty) (ω υ : List Nat), (flat t).length ≤ f → ω.length = υ.length → ok ω.length t = true → (∀ j, j < ω.length → vw υ j ≤ vw ω j ∧ 1 + e ≤ vw ω j) → ∀ d, pmz (qu (1 + e)) d υ t ≤ nz 0 (fun _ => 1 + e) (2 + e) (vlr false e) ω t
  | 0, t, ω, υ, hf, _, o, _ => by have := flat_pos o; omega
  | f + 1, t, ω, υ, hf, hl, o, hv => by
    intro d
    rcases ok_cases o with rfl | ⟨j, hj, rfl⟩ | ⟨a, c, rfl, ha, hb⟩ | ⟨a, c, rfl, ha, hb⟩ | ⟨m, x, y, z, hm, rfl, h0, h1, h2⟩
    · rw [pmz_top]
      cases d
      · exact Nat.zero_le _
      · exact Nat.zero_le _
    · have q := hv j hj
      rw [nz_var]
      cases d
      · rw [pmz_vf]
        have : qu (1 + e) false 4 = 1 + e := rfl
        rw [this]; exact q.2
      · rw [pmz_vt]; exact q.1
    · rw [flat_fun, List.length_cons, List.length_append] at hf
      have i1 := pmz_nz' f a ω υ (by omega) hl ha hv (!d)
      have i2 := pmz_nz' f c ω υ (by omega) hl hb hv d
      have qt : qu (1 + e) true 1 = 0 := rfl
      have qf : qu (1 + e) false 1 = 1 + e := rfl
      rw [nz_fun, pmz_fun]
      cases d
      · rw [qf]; omega
      · rw [qt]; omega
    · rw [flat_all, List.length_cons, List.length_append] at hf
      have i1 := pmz_nz' f a ω υ (by omega) hl ha hv true
      have i2 := pmz_nz' f c (vlr false e (nz 0 (fun _ => 1 + e) (2 + e) (vlr false e) ω a) :: ω) ((1 + pmz (qu (1 + e)) true υ a) :: υ) (by omega) (by rw [List.length_cons, List.length_cons, hl]) (by rw [List.length_cons]; exact hb) (fun j hj => by
        rw [vw_cons, vw_cons, hl]
        by_cases c : j = υ.length
        · rw [if_pos c, if_pos c]
          show 1 + pmz (qu (1 + e)) true υ a ≤ 1 + max e (nz 0 (fun _ => 1 + e) (2 + e) (vlr false e) ω a) ∧ 1 + e ≤ 1 + max e (nz 0 (fun _ => 1 + e) (2 + e) (vlr false e) ω a)
          omega
        · rw [if_neg c, if_neg c]; exact hv j (by rw [List.length_cons] at hj; omega)) d
      rw [nz_all, pmz_all]
      have qt : qu (1 + e) true 2 = 1 := rfl
      have qf : qu (1 + e) false 2 = 1 + (1 + e) := rfl
      have qt3 : qu (1 + e) true 3 = 1 := rfl
      cases d
      · rw [qf]
        rw [qt3] at *
        omega
      · rw [qt]
        rw [qt3] at *
        omega
    · rw [flat_rec, List.length_cons, List.length_append, List.length_append] at hf
      have key : ∀ (i : Nat) (p : Ty), (flat p).length ≤ f → okl ω.length m i p → pmz (qu (1 + e)) d υ p ≤ nz 0 (fun _ => 1 + e) (2 + e) (vlr false e) ω p := by
        intro i p hp ho
        unfold okl at ho
        by_cases hb : bit m i = true
        · rw [if_pos hb] at ho
          exact pmz_nz' f p ω υ hp hl ho hv d
        · rw [if_neg hb] at ho
          rw [ho, pmz_nil]; exact Nat.zero_le _
      have q0 := key 0 x (by omega) h0
      have q1 := key 1 y (by omega) h1
      have q2 := key 2 z (by omega) h2
      rw [nz_rec, pmz_rec]
      cases d
      · show (1 + e + 0 * mis m) + _ ≤ _
        omega
      · show (0 + 0 * mis m) + _ ≤ _
        omega
theorem onz_oq' {e : Nat} : ∀ (Γ : List Ty), okc Γ → ∀ j, j < Γ.length → vw (oq (qu (1 + e)) Γ) j ≤ vw (onz 0 (fun _ => 1 + e) (2 + e) (vlr false e) Γ) j ∧ 1 + e ≤ vw (onz 0 (fun _ => 1 + e) (2 + e) (vlr false e) Γ) j
  | [], _, j, hj => absurd hj (Nat.not_lt_zero _)
  | b :: Γ, hc, j, hj => by
    have ih := onz_oq' (e := e) Γ hc.2
    have l1 := onz_len 0 (fun _ => 1 + e) (2 + e) (vlr false e) Γ
    have l2 := oq_len (qu (1 + e)) Γ
    have q := pmz_nz' (e := e) _ b (onz 0 (fun _ => 1 + e) (2 + e) (vlr false e) Γ) (oq (qu (1 + e)) Γ) (Nat.le_refl _) (by rw [l1, l2]) (by rw [l1]; exact hc.1) (fun j hj => ih j (by rw [l1] at hj; exact hj)) true
    show (if j = (oq (qu (1 + e)) Γ).length then 1 + pmz (qu (1 + e)) true (oq (qu (1 + e)) Γ) b else vw (oq (qu (1 + e)) Γ) j) ≤ (if j = (onz 0 (fun _ => 1 + e) (2 + e) (vlr false e) Γ).length then vlr false e (nz 0 (fun _ => 1 + e) (2 + e) (vlr false e) (onz 0 (fun _ => 1 + e) (2 + e) (vlr false e) Γ) b) else vw (onz 0 (fun _ => 1 + e) (2 + e) (vlr false e) Γ) j) ∧ 1 + e ≤ (if j = (onz 0 (fun _ => 1 + e) (2 + e) (vlr false e) Γ).length then vlr false e (nz 0 (fun _ => 1 + e) (2 + e) (vlr false e) (onz 0 (fun _ => 1 + e) (2 + e) (vlr false e) Γ) b) else vw (onz 0 (fun _ => 1 + e) (2 + e) (vlr false e) Γ) j)
    rw [l1, l2]
    by_cases c : j = Γ.length
    · rw [if_pos c, if_pos c]
      have ev : ∀ y, vlr false e y = 1 + max e y := fun _ => rfl
      rw [ev]
      omega
    · rw [if_neg c, if_neg c]
      exact ih j (by rw [List.length_cons] at hj; omega)
section PmM4
variable {e : Nat} {Γ : List Ty} {S T : Ty}
theorem trx_S' (tb : TB (1 + e) (Γ, S, T)) : trx (Γ, S, T) ≤ nz 0 (fun _ => 1 + e) (2 + e) (vlr false e) (onz 0 (fun _ => 1 + e) (2 + e) (vlr false e) Γ) S := by
  have l1 := onz_len 0 (fun _ => 1 + e) (2 + e) (vlr false e) Γ
  have oS : ok Γ.length S = true := tb.1.2.1
  exact Nat.le_trans (trx_S tb) (pmz_nz' _ S _ _ (Nat.le_refl _) (by rw [l1, oq_len]) (by rw [l1]; exact oS) (fun j hj => onz_oq' Γ tb.1.1 j (by rw [l1] at hj; exact hj)) true)
theorem trx_T' (tb : TB (1 + e) (Γ, S, T)) : trx (Γ, S, T) ≤ nz 0 (fun _ => 1 + e) (2 + e) (vlr false e) (onz 0 (fun _ => 1 + e) (2 + e) (vlr false e) Γ) T := by
  have l1 := onz_len 0 (fun _ => 1 + e) (2 + e) (vlr false e) Γ
  have oT : ok Γ.length T = true := tb.1.2.2
  exact Nat.le_trans (trx_T tb) (pmz_nz' _ T _ _ (Nat.le_refl _) (by rw [l1, oq_len]) (by rw [l1]; exact oT) (fun j hj => onz_oq' Γ tb.1.1 j (by rw [l1] at hj; exact hj)) false)
theorem LB_ST' (tb : TB (1 + e) (Γ, S, T)) (hx : cch Γ ≤ 56) (lS : (flat S).length ≤ 16) (lT : (flat T).length ≤ 16) (q : nz 0 (fun _ => 1 + e) (2 + e) (vlr false e) (onz 0 (fun _ => 1 + e) (2 + e) (vlr false e) Γ) S ≤ 887 ∨ nz 0 (fun _ => 1 + e) (2 + e) (vlr false e) (onz 0 (fun _ => 1 + e) (2 + e) (vlr false e) Γ) T ≤ 887) : LB Γ S T := by
  have a1 := hgt_ctx tb.1.1 tb.1.2.1 lS hx
  have a2 := hgt_ctx tb.1.1 tb.1.2.2 lT hx
  have a3 : trx (Γ, S, T) ≤ 887 := by
    rcases q with q | q
    · exact Nat.le_trans (trx_S' tb) q
    · exact Nat.le_trans (trx_T' tb) q
  have a4 := len_cch Γ
  refine ⟨Nat.le_trans (Nat.add_le_add a1 a2) (by decide), ?_, a3⟩
  omega
end PmM4
