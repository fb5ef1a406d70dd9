/-! ROWS AND GOALS BY THE MEASURE WITHOUT POLES. -/
theorem onz_oz {b : Bool} {e : Nat} : ∀ (Γ : List Ty), okc Γ → ∀ j, j < Γ.length → vw (oz b e Γ) j ≤ vw (onz 0 (fun _ => 1 + e) (2 + e) (vlr b e) Γ) j ∧ nvr b e (vw (oq (qu e) Γ) j) ≤ vw (onz 0 (fun _ => 1 + e) (2 + e) (vlr b e) Γ) j
  | [], _, j, hj => absurd hj (Nat.not_lt_zero _)
  | a :: Γ, hc, j, hj => by
    have ih := onz_oz (b := b) (e := e) Γ hc.2
    have l1 := onz_len 0 (fun _ => 1 + e) (2 + e) (vlr b e) Γ
    have l2 := oz_len b e Γ
    have l3 := oq_len (qu e) Γ
    have ha : ok (onz 0 (fun _ => 1 + e) (2 + e) (vlr b e) Γ).length a = true := by rw [l1]; exact hc.1
    show vw (vlr b e (mrz b e true (oz b e Γ) (oq (qu e) Γ) a) :: oz b e Γ) j ≤ vw (vlr b e (nz 0 (fun _ => 1 + e) (2 + e) (vlr b e) (onz 0 (fun _ => 1 + e) (2 + e) (vlr b e) Γ) a) :: onz 0 (fun _ => 1 + e) (2 + e) (vlr b e) Γ) j ∧ nvr b e (vw ((qu e true 3 + pmz (qu e) true (oq (qu e) Γ) a) :: oq (qu e) Γ) j) ≤ vw (vlr b e (nz 0 (fun _ => 1 + e) (2 + e) (vlr b e) (onz 0 (fun _ => 1 + e) (2 + e) (vlr b e) Γ) a) :: onz 0 (fun _ => 1 + e) (2 + e) (vlr b e) Γ) j
    rw [vw_cons, vw_cons, vw_cons, l1, l2, l3]
    have q3 : qu e true 3 = 1 := rfl
    by_cases ej : j = Γ.length
    · rw [if_pos ej, if_pos ej, if_pos ej, q3]
      have i1 := mrz_nz (b := b) (e := e) _ a true (onz 0 (fun _ => 1 + e) (2 + e) (vlr b e) Γ) (oz b e Γ) (oq (qu e) Γ) (Nat.le_refl _) (by rw [l1, l2]) (by rw [l1, l3]) ha (fun i hi => ih i (by rw [l1] at hi; exact hi))
      obtain ⟨p1, p3⟩ := pmz_nz (b := b) (e := e) _ a (onz 0 (fun _ => 1 + e) (2 + e) (vlr b e) Γ) (oq (qu e) Γ) (Nat.le_refl _) (by rw [l1, l3]) ha (fun i hi => (ih i (by rw [l1] at hi; exact hi)).2)
      have k1 := p1 true
      have k0 : hd a = 0 → pmz (qu e) true (oq (qu e) Γ) a = 0 := by
        intro h0
        have ea : a = tTop := by
          rcases ok_cases ha with e' | ⟨j, hj, e'⟩ | ⟨p, q, e', -, -⟩ | ⟨p, q, e', -, -⟩ | ⟨m, x, y, z, hm, e', -⟩
          · exact e'
          · rw [e', hd_var] at h0; omega
          · rw [e', hd_fun] at h0; omega
          · rw [e', hd_all] at h0; omega
          · rw [e', hd_rec] at h0; omega
        rw [ea, pmz_top]; rfl
      clear p1 ih
      revert k1 p3 i1
      generalize nz 0 (fun _ => 1 + e) (2 + e) (vlr b e) (onz 0 (fun _ => 1 + e) (2 + e) (vlr b e) Γ) a = N
      intro i1 p3 k1
      unfold nvr vlr
      cases b
      · simp only [Bool.false_eq_true, if_false]
        by_cases h0 : hd a = 0
        · have := k0 h0
          omega
        · have := p3 rfl h0
          omega
      · simp only [if_true]
        omega
    · rw [if_neg ej, if_neg ej, if_neg ej]
      exact ih j (by simp only [List.length_cons] at hj; omega)
theorem urm_nz {b : Bool} {e w : Nat} {Γ : List Ty} {t : Ty} (hc : okc Γ) (o : ok Γ.length t = true) : urm b e w Γ t ≤ nz 0 (fun _ => 1 + e) (2 + e) (vlr b e) (onz 0 (fun _ => 1 + e) (2 + e) (vlr b e) Γ) t := by
  unfold urm
  have l1 := onz_len 0 (fun _ => 1 + e) (2 + e) (vlr b e) Γ
  exact mrz_nz _ t _ _ _ _ (Nat.le_refl _) (by rw [l1, oz_len]) (by rw [l1, oq_len]) (by rw [l1]; exact o) (fun j hj => onz_oz Γ hc j (by rw [l1] at hj; exact hj))
/-- goals -/
def ngc (c : Nat) : Nat := if c = 1 then 1 else 1 + mis (c - 8)
theorem pmg_nz : ∀ (f : Nat) (t : Ty) (d : Bool) (ω ω' : List Nat), (flat t).length ≤ f → ω'.length = ω.length → ok ω.length t = true → (∀ j, j < ω.length → vw ω' j ≤ vw ω j ∧ 1 ≤ vw ω j) → pmz qg d ω' t ≤ nz 1 ngc 1 (fun x => x) ω t ∧ 1 ≤ nz 1 ngc 1 (fun x => x) ω t
  | 0, t, d, ω, ω', hf, _, o, _ => by have := flat_pos o; omega
  | f + 1, t, d, ω, ω', hf, hl, o, hv => by
    have q0 : qg d 0 = 1 := rfl
    have q1 : qg d 1 = 1 := rfl
    have q2 : qg d 2 = 1 := rfl
    have q3 : qg true 3 = 0 := rfl
    have q4 : qg false 4 = 1 := rfl
    have q5 : qg d 5 = 1 := rfl
    rcases ok_cases o with rfl | ⟨j, hj, rfl⟩ | ⟨a, c, rfl, ha, hb⟩ | ⟨a, c, rfl, ha, hb⟩ | ⟨m, x, y, z, hm, rfl, h0, h1, h2⟩
    · rw [pmz_top, nz_top, q0]; omega
    · have q := hv j hj
      rw [nz_var]
      refine ⟨?_, q.2⟩
      cases d
      · rw [pmz_vf, q4]; exact q.2
      · rw [pmz_vt]; exact q.1
    · rw [flat_fun, List.length_cons, List.length_append] at hf
      have i1 := pmg_nz f a (!d) ω ω' (by omega) hl ha hv
      have i2 := pmg_nz f c d ω ω' (by omega) hl hb hv
      rw [nz_fun, pmz_fun, q1]
      have : ngc 1 = 1 := rfl
      omega
    · rw [flat_all, List.length_cons, List.length_append] at hf
      have i1 := pmg_nz f a true ω ω' (by omega) hl ha hv
      rw [nz_all, pmz_all, q2, q3]
      have i2 := pmg_nz f c d (nz 1 ngc 1 (fun x => x) ω a :: ω) ((0 + pmz qg true ω' a) :: ω') (by omega) (by rw [List.length_cons, List.length_cons, hl]) hb (fun j hj => by
        rw [List.length_cons] at hj
        rw [vw_cons, vw_cons, hl]
        by_cases ej : j = ω.length
        · rw [if_pos ej, if_pos ej]; omega
        · rw [if_neg ej, if_neg ej]; exact hv j (by omega))
      have i2 : pmz qg d ((0 + pmz qg true ω' a) :: ω') c ≤ nz 1 ngc 1 (fun x => x) (nz 1 ngc 1 (fun x => x) ω a :: ω) c ∧ 1 ≤ nz 1 ngc 1 (fun x => x) (nz 1 ngc 1 (fun x => x) ω a :: ω) c := i2
      omega
    · rw [flat_rec, List.length_cons, List.length_append, List.length_append] at hf
      have key : ∀ (i : Nat) (p : Ty), (flat p).length ≤ f → okl ω.length m i p → pmz qg d ω' p ≤ nz 1 ngc 1 (fun x => x) ω p := by
        intro i p hp ho
        unfold okl at ho
        by_cases hb : bit m i = true
        · rw [if_pos hb] at ho
          exact (pmg_nz f p d ω ω' hp hl ho hv).1
        · rw [if_neg hb] at ho
          rw [ho, pmz_nil]; exact Nat.zero_le _
      have j0 := key 0 x (by omega) h0
      have j1 := key 1 y (by omega) h1
      have j2 := key 2 z (by omega) h2
      have en : ngc (8 + m) = 1 + mis m := by unfold ngc; rw [if_neg (by omega), show 8 + m - 8 = m by omega]
      rw [nz_rec, pmz_rec, q1, q5, en]; omega
theorem onz_og : ∀ (Γ : List Ty), okc Γ → ∀ j, j < Γ.length → vw (oq qg Γ) j ≤ vw (onz 1 ngc 1 (fun x => x) Γ) j ∧ 1 ≤ vw (onz 1 ngc 1 (fun x => x) Γ) j
  | [], _, j, hj => absurd hj (Nat.not_lt_zero _)
  | a :: Γ, hc, j, hj => by
    have ih := onz_og Γ hc.2
    have l1 := onz_len 1 ngc 1 (fun x => x) Γ
    have l3 := oq_len qg Γ
    have i1 := pmg_nz _ a true (onz 1 ngc 1 (fun x => x) Γ) (oq qg Γ) (Nat.le_refl _) (by rw [l1, l3]) (by rw [l1]; exact hc.1) (fun i hi => ih i (by rw [l1] at hi; exact hi))
    have q3 : qg true 3 = 0 := rfl
    show vw ((qg true 3 + pmz qg true (oq qg Γ) a) :: oq qg Γ) j ≤ vw (nz 1 ngc 1 (fun x => x) (onz 1 ngc 1 (fun x => x) Γ) a :: onz 1 ngc 1 (fun x => x) Γ) j ∧ 1 ≤ vw (nz 1 ngc 1 (fun x => x) (onz 1 ngc 1 (fun x => x) Γ) a :: onz 1 ngc 1 (fun x => x) Γ) j
    rw [vw_cons, vw_cons, l1, l3, q3]
    by_cases ej : j = Γ.length
    · rw [if_pos ej, if_pos ej]; omega
    · rw [if_neg ej, if_neg ej]
      exact ih j (by simp only [List.length_cons] at hj; omega)
theorem ugS_nz {w : Nat} {Γ : List Ty} {S T : Ty} (hc : okc Γ) (o : ok Γ.length S = true) : ugS (w, Γ, S, T) ≤ nz 1 ngc 1 (fun x => x) (onz 1 ngc 1 (fun x => x) Γ) S := by
  have l1 := onz_len 1 ngc 1 (fun x => x) Γ
  exact (pmg_nz _ S _ _ _ (Nat.le_refl _) (by rw [l1]; exact oq_len qg Γ) (by rw [l1]; exact o) (fun j hj => onz_og Γ hc j (by rw [l1] at hj; exact hj))).1
theorem ugT_nz {w : Nat} {Γ : List Ty} {S T : Ty} (hc : okc Γ) (o : ok Γ.length T = true) : ugT (w, Γ, S, T) ≤ nz 1 ngc 1 (fun x => x) (onz 1 ngc 1 (fun x => x) Γ) T := by
  have l1 := onz_len 1 ngc 1 (fun x => x) Γ
  exact (pmg_nz _ T _ _ _ (Nat.le_refl _) (by rw [l1]; exact oq_len qg Γ) (by rw [l1]; exact o) (fun j hj => onz_og Γ hc j (by rw [l1] at hj; exact hj))).1
