/-! A MEASURE WITHOUT POLES: every leaf counts full. -/
def nz (t0 : Nat) (n1 : Nat → Nat) (s2 : Nat) (h : Nat → Nat) : List Nat → Ty → Nat
  | ω, .tag c (.append s t) => if c = 2 then s2 + nz t0 n1 s2 h (h (nz t0 n1 s2 h ω s) :: ω) t else n1 c + (nz t0 n1 s2 h ω s + nz t0 n1 s2 h ω t)
  | ω, .tag c .nil => if 16 ≤ c then vw ω (c - 16) else t0
  | ω, .append s t => nz t0 n1 s2 h ω s + nz t0 n1 s2 h ω t
  | _, _ => 0
section PmKg
variable {t0 s2 : Nat} {n1 h : Nat → Nat}
theorem nz_top (ω : List Nat) : nz t0 n1 s2 h ω tTop = t0 := by simp [tTop, nz]
theorem nz_var (ω : List Nat) (k : Nat) : nz t0 n1 s2 h ω (tVar k) = vw ω k := by simp [tVar, nz]
theorem nz_nil (ω : List Nat) : nz t0 n1 s2 h ω .nil = 0 := by simp [nz]
theorem nz_fun (ω : List Nat) (a b : Ty) : nz t0 n1 s2 h ω (tFun a b) = n1 1 + (nz t0 n1 s2 h ω a + nz t0 n1 s2 h ω b) := by simp [tFun, nz]
theorem nz_all (ω : List Nat) (a b : Ty) : nz t0 n1 s2 h ω (tAll a b) = s2 + nz t0 n1 s2 h (h (nz t0 n1 s2 h ω a) :: ω) b := by simp [tAll, nz]
theorem nz_rec (ω : List Nat) {m : Nat} (x y z : Ty) : nz t0 n1 s2 h ω (tRec m x y z) = n1 (8 + m) + (nz t0 n1 s2 h ω x + (nz t0 n1 s2 h ω y + nz t0 n1 s2 h ω z)) := by
  unfold tRec
  rw [nz, if_neg (by omega), nz]
end PmKg
theorem vw_cons (a : Nat) (ω : List Nat) (k : Nat) : vw (a :: ω) k = if k = ω.length then a else vw ω k := rfl
/-- the measure of comparisons is no more -/
theorem pmz_nz {b : Bool} {e : Nat} : ∀ (f : Nat) (t : Ty) (ω υ : List Nat), (flat t).length ≤ f → ω.length = υ.length → ok ω.length t = true → (∀ j, j < ω.length → nvr b e (vw υ j) ≤ vw ω j) → (∀ d, pmz (qu e) d υ t ≤ nz 0 (fun _ => 1 + e) (2 + e) (vlr b e) ω t) ∧ (b = false → hd t ≠ 0 → pmz (qu e) true υ t + e ≤ nz 0 (fun _ => 1 + e) (2 + e) (vlr b e) ω t)
  | 0, t, ω, υ, hf, _, o, _ => by have := flat_pos o; omega
  | f + 1, t, ω, υ, hf, hl, o, hv => by
    have qt0 : qu e true 0 = 0 := rfl
    have qf0 : qu e false 0 = 0 := rfl
    rcases ok_cases o with rfl | ⟨j, hj, rfl⟩ | ⟨a, c, rfl, ha, hb⟩ | ⟨a, c, rfl, ha, hb⟩ | ⟨m, x, y, z, hm, rfl, h0, h1, h2⟩
    · refine ⟨fun d => ?_, fun _ h0 => absurd hd_top h0⟩
      rw [pmz_top]
      cases d
      · rw [qf0]; exact Nat.zero_le _
      · rw [qt0]; exact Nat.zero_le _
    · have q := hv j hj
      rw [nz_var]
      refine ⟨fun d => ?_, fun hb _ => ?_⟩
      · cases d
        · rw [pmz_vf]
          have : qu e false 4 = e := rfl
          rw [this]
          unfold nvr at q
          split at q <;> omega
        · rw [pmz_vt]
          unfold nvr at q
          split at q <;> omega
      · subst hb
        rw [pmz_vt]
        unfold nvr at q
        simp only [Bool.false_eq_true, if_false] at q
        omega
    · rw [flat_fun, List.length_cons, List.length_append] at hf
      have i1 := (pmz_nz f a ω υ (by omega) hl ha hv).1
      have i2 := (pmz_nz f c ω υ (by omega) hl hb hv).1
      have qt : qu e true 1 = 0 := rfl
      have qf : qu e false 1 = e := rfl
      rw [nz_fun]
      refine ⟨fun d => ?_, fun _ _ => ?_⟩
      · rw [pmz_fun]
        have j1 := i1 (!d)
        have j2 := i2 d
        cases d
        · rw [qf]; omega
        · rw [qt]; omega
      · rw [pmz_fun, qt]
        have j1 := i1 (!true)
        have j2 := i2 true
        omega
    · rw [flat_all, List.length_cons, List.length_append] at hf
      obtain ⟨i1, i3⟩ := pmz_nz f a ω υ (by omega) hl ha hv
      have q3 : qu e true 3 = 1 := rfl
      have qt : qu e true 2 = 1 := rfl
      have qf : qu e false 2 = 1 + e := rfl
      have hv' : ∀ j, j < (vlr b e (nz 0 (fun _ => 1 + e) (2 + e) (vlr b e) ω a) :: ω).length → nvr b e (vw ((1 + pmz (qu e) true υ a) :: υ) j) ≤ vw (vlr b e (nz 0 (fun _ => 1 + e) (2 + e) (vlr b e) ω a) :: ω) j := by
        intro j hj
        rw [List.length_cons] at hj
        rw [vw_cons, vw_cons, ← hl]
        by_cases ej : j = ω.length
        · rw [if_pos ej, if_pos ej]
          have k1 := i1 true
          have k3 := i3
          clear i1 i3
          revert k1 k3
          generalize nz 0 (fun _ => 1 + e) (2 + e) (vlr b e) ω a = N
          intro k1 k3
          unfold nvr vlr
          cases b
          · simp only [Bool.false_eq_true, if_false]
            by_cases h0 : hd a = 0
            · have ea : a = tTop := by
                rcases ok_cases ha with e' | ⟨j, hj, e'⟩ | ⟨p, q, e', -, -⟩ | ⟨p, q, e', -, -⟩ | ⟨m, x, y, z, hm, e', -⟩
                · exact e'
                · rw [e', hd_var] at h0; omega
                · rw [e', hd_fun] at h0; omega
                · rw [e', hd_all] at h0; omega
                · rw [e', hd_rec] at h0; omega
              rw [ea, pmz_top, qt0]
              omega
            · have := k3 rfl h0
              omega
          · simp only [if_true]
            omega
        · rw [if_neg ej, if_neg ej]
          exact hv j (by omega)
      have i2 := (pmz_nz f c (vlr b e (nz 0 (fun _ => 1 + e) (2 + e) (vlr b e) ω a) :: ω) ((1 + pmz (qu e) true υ a) :: υ) (by omega) (by rw [List.length_cons, List.length_cons, hl]) hb hv').1
      rw [nz_all]
      refine ⟨fun d => ?_, fun _ _ => ?_⟩
      · rw [pmz_all, q3]
        have j2 := i2 d
        cases d
        · rw [qf]; omega
        · rw [qt]; omega
      · rw [pmz_all, q3, qt]
        have j2 := i2 true
        omega
    · rw [flat_rec, List.length_cons, List.length_append, List.length_append] at hf
      have key : ∀ (i : Nat) (p : Ty), (flat p).length ≤ f → okl ω.length m i p → ∀ d, pmz (qu e) d υ p ≤ nz 0 (fun _ => 1 + e) (2 + e) (vlr b e) ω p := by
        intro i p hp ho d
        unfold okl at ho
        by_cases hb : bit m i = true
        · rw [if_pos hb] at ho
          exact (pmz_nz f p ω υ hp hl ho hv).1 d
        · rw [if_neg hb] at ho
          rw [ho, pmz_nil]; exact Nat.zero_le _
      have qt : qu e true 1 = 0 := rfl
      have qf : qu e false 1 = e := rfl
      have q5 : ∀ d, qu e d 5 = 0 := fun d => by cases d <;> rfl
      rw [nz_rec]
      refine ⟨fun d => ?_, fun _ _ => ?_⟩
      · rw [pmz_rec, q5 d]
        have j0 := key 0 x (by omega) h0 d
        have j1 := key 1 y (by omega) h1 d
        have j2 := key 2 z (by omega) h2 d
        cases d
        · rw [qf]; omega
        · rw [qt]; omega
      · rw [pmz_rec, q5, qt]
        have j0 := key 0 x (by omega) h0 true
        have j1 := key 1 y (by omega) h1 true
        have j2 := key 2 z (by omega) h2 true
        omega
/-- the measure of rows is no more -/
theorem mrz_nz {b : Bool} {e : Nat} : ∀ (f : Nat) (t : Ty) (d : Bool) (ω ω' υ : List Nat), (flat t).length ≤ f → ω'.length = ω.length → ω.length = υ.length → ok ω.length t = true → (∀ j, j < ω.length → vw ω' j ≤ vw ω j ∧ nvr b e (vw υ j) ≤ vw ω j) → mrz b e d ω' υ t ≤ nz 0 (fun _ => 1 + e) (2 + e) (vlr b e) ω t
  | 0, t, d, ω, ω', υ, hf, _, _, o, _ => by have := flat_pos o; omega
  | f + 1, t, d, ω, ω', υ, hf, hl', hl, o, hv => by
    rcases ok_cases o with rfl | ⟨j, hj, rfl⟩ | ⟨a, c, rfl, ha, hb⟩ | ⟨a, c, rfl, ha, hb⟩ | ⟨m, x, y, z, hm, rfl, h0, h1, h2⟩
    · rw [mrz_top]; exact Nat.zero_le _
    · have q := hv j hj
      rw [nz_var]
      cases d
      · rw [mrz_vf]; exact q.2
      · rw [mrz_vt]; exact q.1
    · rw [flat_fun, List.length_cons, List.length_append] at hf
      have i1 := mrz_nz f a (!d) ω ω' υ (by omega) hl' hl ha hv
      have i2 := mrz_nz f c d ω ω' υ (by omega) hl' hl hb hv
      rw [nz_fun, mrz_fun]; omega
    · rw [flat_all, List.length_cons, List.length_append] at hf
      have i1 := mrz_nz f a true ω ω' υ (by omega) hl' hl ha hv
      obtain ⟨p1, p3⟩ := pmz_nz (b := b) (e := e) f a ω υ (by omega) hl ha (fun j hj => (hv j hj).2)
      rw [nz_all, mrz_all]
      have hv' : ∀ j, j < (vlr b e (nz 0 (fun _ => 1 + e) (2 + e) (vlr b e) ω a) :: ω).length → vw (vlr b e (mrz b e true ω' υ a) :: ω') j ≤ vw (vlr b e (nz 0 (fun _ => 1 + e) (2 + e) (vlr b e) ω a) :: ω) j ∧ nvr b e (vw ((1 + pmz (qu e) true υ a) :: υ) j) ≤ vw (vlr b e (nz 0 (fun _ => 1 + e) (2 + e) (vlr b e) ω a) :: ω) j := by
        intro j hj
        rw [List.length_cons] at hj
        rw [vw_cons, vw_cons, vw_cons, ← hl, hl']
        by_cases ej : j = ω.length
        · rw [if_pos ej, if_pos ej, if_pos ej]
          have k1 := p1 true
          have k3 := p3
          have k0 : hd a = 0 → pmz (qu e) true υ a = 0 := by
            intro h0
            have ea : a = tTop := by
              rcases ok_cases ha with e' | ⟨j, hj, e'⟩ | ⟨p, q, e', -, -⟩ | ⟨p, q, e', -, -⟩ | ⟨m, x, y, z, hm, e', -⟩
              · exact e'
              · rw [e', hd_var] at h0; omega
              · rw [e', hd_fun] at h0; omega
              · rw [e', hd_all] at h0; omega
              · rw [e', hd_rec] at h0; omega
            rw [ea, pmz_top]; rfl
          clear p1 p3
          revert k1 k3 i1
          generalize nz 0 (fun _ => 1 + e) (2 + e) (vlr b e) ω a = N
          intro i1 k1 k3
          unfold nvr vlr
          cases b
          · simp only [Bool.false_eq_true, if_false]
            by_cases h0 : hd a = 0
            · have := k0 h0
              omega
            · have := k3 rfl h0
              omega
          · simp only [if_true]
            omega
        · rw [if_neg ej, if_neg ej, if_neg ej]
          exact hv j (by omega)
      have i2 := mrz_nz f c d (vlr b e (nz 0 (fun _ => 1 + e) (2 + e) (vlr b e) ω a) :: ω) (vlr b e (mrz b e true ω' υ a) :: ω') ((1 + pmz (qu e) true υ a) :: υ) (by omega) (by rw [List.length_cons, List.length_cons, hl']) (by rw [List.length_cons, List.length_cons, hl]) hb hv'
      omega
    · rw [flat_rec, List.length_cons, List.length_append, List.length_append] at hf
      have key : ∀ (i : Nat) (p : Ty), (flat p).length ≤ f → okl ω.length m i p → mrz b e d ω' υ p ≤ nz 0 (fun _ => 1 + e) (2 + e) (vlr b e) ω p := by
        intro i p hp ho
        unfold okl at ho
        by_cases hb : bit m i = true
        · rw [if_pos hb] at ho
          exact mrz_nz f p d ω ω' υ hp hl' hl ho hv
        · rw [if_neg hb] at ho
          rw [ho, mrz_nil]; exact Nat.zero_le _
      have j0 := key 0 x (by omega) h0
      have j1 := key 1 y (by omega) h1
      have j2 := key 2 z (by omega) h2
      rw [nz_rec, mrz_rec]; omega
/-- the values of the variables around, without poles -/
def onz (t0 : Nat) (n1 : Nat → Nat) (s2 : Nat) (h : Nat → Nat) : List Ty → List Nat
  | [] => []
  | a :: Γ => h (nz t0 n1 s2 h (onz t0 n1 s2 h Γ) a) :: onz t0 n1 s2 h Γ
theorem onz_len (t0 : Nat) (n1 : Nat → Nat) (s2 : Nat) (h : Nat → Nat) : ∀ Γ : List Ty, (onz t0 n1 s2 h Γ).length = Γ.length
  | [] => rfl
  | a :: Γ => by show (onz t0 n1 s2 h Γ).length + 1 = Γ.length + 1; rw [onz_len t0 n1 s2 h Γ]
