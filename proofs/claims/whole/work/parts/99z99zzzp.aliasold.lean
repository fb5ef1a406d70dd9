/-! ALIASES: what the old measure (chains of 1 + a) is worth against values where an alias is worth its variable. -/
def nal : List Ty → Nat
  | [] => 0
  | b :: Γ => (if 16 ≤ hd b then 1 else 0) + nal Γ
theorem ccq_nal : ∀ {Γ : List Ty}, okc Γ → cch Γ = ccq Γ + 5 * nal Γ
  | [], _ => rfl
  | b :: Γ, hc => by
    have ih := ccq_nal hc.2
    show (tch b + 4) + cch Γ = ((if 16 ≤ hd b then 0 else tch b + 4) + ccq Γ) + 5 * ((if 16 ≤ hd b then 1 else 0) + nal Γ)
    by_cases c : 16 ≤ hd b
    · obtain ⟨j, hj, rfl⟩ := hd_is_var hc.1 c
      rw [if_pos c, if_pos c, ih]
      have : tch (tVar j) = 1 := rfl
      omega
    · rw [if_neg c, if_neg c, ih]
      omega
theorem vlr_a {d : Bool} {a x u : Nat} (h : x ≤ (1 + a) * u) : vlr d (1 + a) x + a ≤ (1 + a) * vlr false 1 u := by
  have e : vlr false 1 u = 1 + max 1 u := rfl
  have e2 : vlr d (1 + a) x ≤ 1 + max (1 + a) x := by
    unfold vlr
    split <;> omega
  rw [e, Nat.mul_add]
  have m : max (1 + a) ((1 + a) * u) ≤ (1 + a) * max 1 u := by
    refine Nat.max_le.mpr ⟨?_, Nat.mul_le_mul_left _ (Nat.le_max_right _ _)⟩
    have := Nat.mul_le_mul_left (1 + a) (Nat.le_max_left 1 u)
    omega
  omega
theorem nze_le {d : Bool} {a : Nat} : ∀ (f : Nat) (t : Ty) (ω υ : List Nat), (flat t).length ≤ f → ω.length = υ.length → ok ω.length t = true → (∀ j, j < ω.length → vw ω j ≤ (1 + a) * vw υ j) → nz 0 (fun _ => 1 + (1 + a)) (2 + (1 + a)) (vlr d (1 + a)) ω t ≤ (1 + a) * nz 0 (fun _ => 1 + 1) (2 + 1) (vlr false 1) υ t
  | 0, t, ω, υ, hf, _, o, _ => by have := flat_pos o; omega
  | f + 1, t, ω, υ, hf, hl, o, hv => by
    rcases ok_cases o with rfl | ⟨j, hj, rfl⟩ | ⟨x, c, rfl, ha, hb⟩ | ⟨x, c, rfl, ha, hb⟩ | ⟨m, x, y, z, hm, rfl, h0, h1, h2⟩
    · rw [nz_top]; exact Nat.zero_le _
    · rw [nz_var, nz_var]; exact hv j hj
    · rw [flat_fun, List.length_cons, List.length_append] at hf
      have i1 := nze_le (d := d) (a := a) f x ω υ (by omega) hl ha hv
      have i2 := nze_le (d := d) f c ω υ (by omega) hl hb hv
      rw [nz_fun, nz_fun]
      simp only [Nat.mul_add]
      omega
    · rw [flat_all, List.length_cons, List.length_append] at hf
      have i1 := nze_le (d := d) (a := a) f x ω υ (by omega) hl ha hv
      have q := vlr_a (d := d) (a := a) i1
      have i2 := nze_le (d := d) (a := a) f c (vlr d (1 + a) (nz 0 (fun _ => 1 + (1 + a)) (2 + (1 + a)) (vlr d (1 + a)) ω x) :: ω) (vlr false 1 (nz 0 (fun _ => 1 + 1) (2 + 1) (vlr false 1) υ x) :: υ) (by omega) (by rw [List.length_cons, List.length_cons, hl]) (by rw [List.length_cons]; exact hb) (fun j hj => by
        rw [vw_cons, vw_cons, hl]
        split
        · omega
        · rename_i ne
          rw [List.length_cons] at hj
          exact hv j (by omega))
      rw [nz_all, nz_all]
      simp only [Nat.mul_add]
      omega
    · rw [flat_rec, List.length_cons, List.length_append, List.length_append] at hf
      have key : ∀ (i : Nat) (p : Ty), (flat p).length ≤ f → okl ω.length m i p → nz 0 (fun _ => 1 + (1 + a)) (2 + (1 + a)) (vlr d (1 + a)) ω p ≤ (1 + a) * nz 0 (fun _ => 1 + 1) (2 + 1) (vlr false 1) υ p := by
        intro i p hp ho
        unfold okl at ho
        by_cases hb : bit m i = true
        · rw [if_pos hb] at ho
          exact nze_le f p ω υ hp hl ho hv
        · rw [if_neg hb] at ho
          rw [ho, nz_nil]; exact Nat.zero_le _
      have q0 := key 0 x (by omega) h0
      have q1 := key 1 y (by omega) h1
      have q2 := key 2 z (by omega) h2
      rw [nz_rec, nz_rec]
      simp only [Nat.mul_add]
      omega
theorem onz_nze {d : Bool} {a : Nat} : ∀ (Γ : List Ty), okc Γ → ∀ k, k < Γ.length → nal Γ ≤ a → 2 + a ≤ vw (onz 0 (fun _ => 1 + (1 + a)) (2 + (1 + a)) (vlr false (1 + a)) Γ) k ∧ vw (onz 0 (fun _ => 1 + (1 + a)) (2 + (1 + a)) (vlr d (1 + a)) Γ) k + a ≤ (1 + a) * vw (lsf (fq 0 (fun _ => 1 + 1) (2 + 1) (vlr false 1)) Γ) k + nal Γ
  | [], _, k, hk, _ => absurd hk (Nat.not_lt_zero _)
  | b :: Γ, hc, k, hk, hn => by
    have en : nal (b :: Γ) = (if 16 ≤ hd b then 1 else 0) + nal Γ := rfl
    have ih := fun j hj => onz_nze (d := d) (a := a) Γ hc.2 j hj (by omega)
    have l1 := onz_len 0 (fun _ => 1 + (1 + a)) (2 + (1 + a)) (vlr d (1 + a)) Γ
    have l3 := onz_len 0 (fun _ => 1 + (1 + a)) (2 + (1 + a)) (vlr false (1 + a)) Γ
    have l2 := lsf_len (fq 0 (fun _ => 1 + 1) (2 + 1) (vlr false 1)) Γ
    show 2 + a ≤ vw (vlr false (1 + a) (nz 0 (fun _ => 1 + (1 + a)) (2 + (1 + a)) (vlr false (1 + a)) (onz 0 (fun _ => 1 + (1 + a)) (2 + (1 + a)) (vlr false (1 + a)) Γ) b) :: onz 0 (fun _ => 1 + (1 + a)) (2 + (1 + a)) (vlr false (1 + a)) Γ) k ∧ vw (vlr d (1 + a) (nz 0 (fun _ => 1 + (1 + a)) (2 + (1 + a)) (vlr d (1 + a)) (onz 0 (fun _ => 1 + (1 + a)) (2 + (1 + a)) (vlr d (1 + a)) Γ) b) :: onz 0 (fun _ => 1 + (1 + a)) (2 + (1 + a)) (vlr d (1 + a)) Γ) k + a ≤ (1 + a) * vw (fq 0 (fun _ => 1 + 1) (2 + 1) (vlr false 1) (lsf (fq 0 (fun _ => 1 + 1) (2 + 1) (vlr false 1)) Γ) b :: lsf (fq 0 (fun _ => 1 + 1) (2 + 1) (vlr false 1)) Γ) k + nal (b :: Γ)
    rw [vw_cons, vw_cons, vw_cons, l1, l2, l3]
    by_cases ek : k = Γ.length
    · rw [if_pos ek, if_pos ek, if_pos ek]
      have ev : ∀ x, vlr false (1 + a) x = 1 + max (1 + a) x := fun _ => rfl
      refine ⟨by rw [ev]; omega, ?_⟩
      by_cases c : 16 ≤ hd b
      · obtain ⟨j, hj, rfl⟩ := hd_is_var hc.1 c
        obtain ⟨i1, i2⟩ := ih j hj
        rw [if_pos c] at en
        have ef : fq 0 (fun _ => 1 + 1) (2 + 1) (vlr false 1) (lsf (fq 0 (fun _ => 1 + 1) (2 + 1) (vlr false 1)) Γ) (tVar j) = vw (lsf (fq 0 (fun _ => 1 + 1) (2 + 1) (vlr false 1)) Γ) j := by
          unfold fq
          rw [if_pos c, nz_var]
        have e2 : ∀ x, vlr d (1 + a) x ≤ 1 + max (1 + a) x := fun x => by
          unfold vlr
          split <;> omega
        rw [ef, nz_var]
        have q := e2 (vw (onz 0 (fun _ => 1 + (1 + a)) (2 + (1 + a)) (vlr d (1 + a)) Γ) j)
        have v2 := Uq_v2 Γ j hc.2 hj
        have m2 := Nat.mul_le_mul_left (1 + a) v2
        omega
      · have ef : fq 0 (fun _ => 1 + 1) (2 + 1) (vlr false 1) (lsf (fq 0 (fun _ => 1 + 1) (2 + 1) (vlr false 1)) Γ) b = vlr false 1 (nz 0 (fun _ => 1 + 1) (2 + 1) (vlr false 1) (lsf (fq 0 (fun _ => 1 + 1) (2 + 1) (vlr false 1)) Γ) b) := if_neg c
        rw [ef]
        have q := nze_le (d := d) (a := a) _ b (onz 0 (fun _ => 1 + (1 + a)) (2 + (1 + a)) (vlr d (1 + a)) Γ) (lsf (fq 0 (fun _ => 1 + 1) (2 + 1) (vlr false 1)) Γ) (Nat.le_refl _) (by rw [l1, l2]) (by rw [l1]; exact hc.1) (fun j hj => by
          obtain ⟨-, i2⟩ := ih j (by rw [l1] at hj; exact hj)
          omega)
        have q2 := vlr_a (d := d) q
        omega
    · rw [if_neg ek, if_neg ek, if_neg ek]
      rw [List.length_cons] at hk
      obtain ⟨i1, i2⟩ := ih k (by omega)
      exact ⟨i1, by omega⟩
/-- rows by the old measure -/
theorem mz_Uq {d : Bool} {a : Nat} {Γ : List Ty} {S : Ty} (hc : okc Γ) (hn : nal Γ ≤ a) (o : ok Γ.length S = true) : nz 0 (fun _ => 1 + (1 + a)) (2 + (1 + a)) (vlr d (1 + a)) (onz 0 (fun _ => 1 + (1 + a)) (2 + (1 + a)) (vlr d (1 + a)) Γ) S ≤ (1 + a) * Uq Γ S := by
  have l1 := onz_len 0 (fun _ => 1 + (1 + a)) (2 + (1 + a)) (vlr d (1 + a)) Γ
  have l2 := lsf_len (fq 0 (fun _ => 1 + 1) (2 + 1) (vlr false 1)) Γ
  exact nze_le _ S _ _ (Nat.le_refl _) (by rw [l1, l2]) (by rw [l1]; exact o) (fun j hj => by
    obtain ⟨-, i2⟩ := onz_nze (d := d) (a := a) Γ hc j (by rw [l1] at hj; exact hj) hn
    omega)
