/-! HEIGHTS: how deep a type is when its variables are written out. -/
def hgt : List Nat → Ty → Nat
  | ω, .tag c (.append a b) => if c = 2 then 1 + max (hgt ω a) (hgt (hgt ω a :: ω) b) else 1 + max (hgt ω a) (hgt ω b)
  | ω, .tag c .nil => 1 + (if 16 ≤ c then vw ω (c - 16) else 0)
  | ω, .append a b => max (hgt ω a) (hgt ω b)
  | _, _ => 0
def oh : List Ty → List Nat
  | [] => []
  | b :: Γ => hgt (oh Γ) b :: oh Γ
theorem oh_len : ∀ Γ : List Ty, (oh Γ).length = Γ.length
  | [] => rfl
  | b :: Γ => by show (oh Γ).length + 1 = Γ.length + 1; rw [oh_len Γ]
theorem hgt_top (ω : List Nat) : hgt ω tTop = 1 := by simp [tTop, hgt]
theorem hgt_var (ω : List Nat) (k : Nat) : hgt ω (tVar k) = 1 + vw ω k := by
  simp [tVar, hgt]
theorem hgt_fun (ω : List Nat) (a b : Ty) : hgt ω (tFun a b) = 1 + max (hgt ω a) (hgt ω b) := by simp [tFun, hgt]
theorem hgt_all (ω : List Nat) (a b : Ty) : hgt ω (tAll a b) = 1 + max (hgt ω a) (hgt (hgt ω a :: ω) b) := by simp [tAll, hgt]
theorem hgt_rec (ω : List Nat) {m : Nat} (x y z : Ty) : hgt ω (tRec m x y z) = 1 + max (hgt ω x) (max (hgt ω y) (hgt ω z)) := by
  unfold tRec
  rw [hgt, if_neg (by omega), hgt]
theorem hgt_nil (ω : List Nat) : hgt ω .nil = 0 := by simp [hgt]
/-- lifting a type into a deeper place does not change its weight -/
theorem hgt_lft (ν ω : List Nat) : ∀ (t : Ty) (μ : List Nat), ok (ω.length + μ.length) t = true → hgt (μ ++ (ν ++ ω)) (lft ω.length ν.length t) = hgt (μ ++ ω) t
  | .tag c (.append a b), μ, h => by
    by_cases h1 : c = 1
    · subst h1
      have h := ok_fun.mp h
      have e : lft ω.length ν.length (.tag 1 (.append a b)) = tFun (lft ω.length ν.length a) (lft ω.length ν.length b) := by
        show Std.Format.tag (if 16 + ω.length ≤ 1 then 1 + ν.length else 1) _ = _
        rw [if_neg (by omega)]; rfl
      rw [e, hgt_fun, hgt_lft ν ω a μ h.1, hgt_lft ν ω b μ h.2]
      exact (hgt_fun _ _ _).symm
    · by_cases h2 : c = 2
      · subst h2
        have h := ok_all.mp h
        have e : lft ω.length ν.length (.tag 2 (.append a b)) = tAll (lft ω.length ν.length a) (lft ω.length ν.length b) := by
          show Std.Format.tag (if 16 + ω.length ≤ 2 then 2 + ν.length else 2) _ = _
          rw [if_neg (by omega)]; rfl
        have ih := hgt_lft ν ω b (hgt (μ ++ ω) a :: μ) (by simp only [List.length_cons]; rw [← Nat.add_assoc]; exact h.2)
        rw [e, hgt_all, hgt_lft ν ω a μ h.1]
        rw [List.cons_append, List.cons_append] at ih
        rw [ih]
        exact (hgt_all _ _ _).symm
      · match b, h with
        | .append y z, h =>
          have h' := h
          rw [ok] at h
          simp only [Bool.and_eq_true, decide_eq_true_eq] at h
          obtain ⟨hc, q0, q1, q2⟩ := h
          have key : ∀ (k : Nat) (t : Ty), (ok (ω.length + μ.length) t = true → hgt (μ ++ (ν ++ ω)) (lft ω.length ν.length t) = hgt (μ ++ ω) t) → (if bit (c - 8) k = true then ok (ω.length + μ.length) t else isNil t) = true → hgt (μ ++ (ν ++ ω)) (lft ω.length ν.length t) = hgt (μ ++ ω) t := by
            intro k t ht hk
            split at hk
            · exact ht hk
            · rw [isNil_eq hk]
              show hgt _ .nil = hgt _ .nil
              rw [hgt_nil, hgt_nil]
          have e : lft ω.length ν.length (.tag c (.append a (.append y z))) = tRec (c - 8) (lft ω.length ν.length a) (lft ω.length ν.length y) (lft ω.length ν.length z) := by
            show Std.Format.tag (if 16 + ω.length ≤ c then c + ν.length else c) _ = _
            rw [if_neg (by omega)]
            unfold tRec
            rw [show 8 + (c - 8) = c by omega]; rfl
          have e2 : Std.Format.tag c (.append a (.append y z)) = tRec (c - 8) a y z := by
            unfold tRec
            rw [show 8 + (c - 8) = c by omega]
          rw [e, e2, hgt_rec, hgt_rec, key 0 a (hgt_lft ν ω a μ) q0, key 1 y (hgt_lft ν ω y μ) q1, key 2 z (hgt_lft ν ω z μ) q2]
        | .tag _ _, h => simp [ok, h1, h2] at h
        | .nil, h => simp [ok, h1, h2] at h
        | .line, h => simp [ok, h1, h2] at h
        | .align _, h => simp [ok, h1, h2] at h
        | .text _, h => simp [ok, h1, h2] at h
        | .nest _ _, h => simp [ok, h1, h2] at h
        | .group _ _, h => simp [ok, h1, h2] at h
  | .tag c .nil, μ, h => by
    rcases ok_cases h with e | ⟨k, hk, e⟩ | ⟨a', b', e, -, -⟩ | ⟨a', b', e, -, -⟩ | ⟨m, x, y, z, hm, e, -, -, -⟩
    · cases e
      show hgt _ (Std.Format.tag (if 16 + ω.length ≤ 0 then 0 + ν.length else 0) .nil) = _
      rw [if_neg (by omega)]
      exact (hgt_top _).trans (hgt_top _).symm
    · cases e
      show hgt _ (Std.Format.tag (if 16 + ω.length ≤ 16 + k then 16 + k + ν.length else 16 + k) .nil) = hgt _ (tVar k)
      rw [hgt_var]
      by_cases hq : ω.length ≤ k
      · rw [if_pos (by omega), show 16 + k + ν.length = 16 + (k + ν.length) by omega]
        show hgt _ (tVar (k + ν.length)) = _
        rw [hgt_var, vw_app_hi μ ν ω k hq hk]
      · rw [if_neg (by omega)]
        show hgt _ (tVar k) = _
        rw [hgt_var, vw_app_lo μ ω k (by omega), ← List.append_assoc, vw_app_lo (μ ++ ν) ω k (by omega)]
    · cases e
    · cases e
    · cases e
  | .tag c .line, μ, h => by simp [ok] at h
  | .tag c (.align _), μ, h => by simp [ok] at h
  | .tag c (.text _), μ, h => by simp [ok] at h
  | .tag c (.nest _ _), μ, h => by simp [ok] at h
  | .tag c (.group _ _), μ, h => by simp [ok] at h
  | .tag c (.tag _ _), μ, h => by simp [ok] at h
  | .nil, μ, h => by simp [ok] at h
  | .line, μ, h => by simp [ok] at h
  | .align _, μ, h => by simp [ok] at h
  | .text _, μ, h => by simp [ok] at h
  | .nest _ _, μ, h => by simp [ok] at h
  | .group _ _, μ, h => by simp [ok] at h
  | .append _ _, μ, h => by simp [ok] at h
/-- a variable's bound weighs what the variable has beside its own node -/
theorem hgt_bnd : ∀ (Γ : List Ty) (k : Nat), okc Γ → k < Γ.length → ∃ ν : List Nat, ∃ ω : List Nat, oh Γ = ν ++ ω ∧ ω.length = k ∧ ok k (bnd Γ k) = true ∧ vw (oh Γ) k = hgt ω (bnd Γ k)
  | [], _, _, h => absurd h (Nat.not_lt_zero _)
  | b :: Γ, k, hc, hk => by
    by_cases h : k = Γ.length
    · subst h
      refine ⟨[hgt (oh Γ) b], oh Γ, rfl, oh_len Γ, ?_, ?_⟩
      · show ok Γ.length (if Γ.length = Γ.length then b else _) = true
        rw [if_pos rfl]; exact hc.1
      · show (if Γ.length = (oh Γ).length then hgt (oh Γ) b else _) = hgt (oh Γ) (if Γ.length = Γ.length then b else _)
        rw [if_pos (oh_len Γ).symm, if_pos rfl]
    · obtain ⟨ν, ω, e1, e2, e3, e4⟩ := hgt_bnd Γ k hc.2 (by simp only [List.length_cons] at hk; omega)
      refine ⟨hgt (oh Γ) b :: ν, ω, by rw [oh, e1]; rfl, e2, ?_, ?_⟩
      · rw [bnd, if_neg h]; exact e3
      · show (if k = (oh Γ).length then _ else vw (oh Γ) k) = _
        rw [if_neg (by rw [oh_len]; exact h), e4, bnd, if_neg h]
theorem hgt_expose {Γ : List Ty} {k : Nat} (hc : okc Γ) (hk : k < Γ.length) : hgt (oh Γ) (lft k (Γ.length - k) (bnd Γ k)) = vw (oh Γ) k := by
  obtain ⟨ν, ω, e1, e2, e3, e4⟩ := hgt_bnd Γ k hc hk
  subst e2
  have hl : ν.length = Γ.length - ω.length := by
    have := oh_len Γ
    rw [e1, List.length_append] at this
    omega
  rw [e4, e1, ← hl]
  exact hgt_lft ν ω (bnd Γ ω.length) [] (by simpa using e3)
theorem hd_is_fun {d : Nat} {t : Ty} (h : ok d t = true) (h1 : hd t = 1) : ∃ a b, t = tFun a b ∧ ok d a = true ∧ ok d b = true := by
  rcases ok_cases h with rfl | ⟨k, hk, rfl⟩ | ⟨a, b, rfl, ha, hb⟩ | ⟨a, b, rfl, -, -⟩ | ⟨m, x, y, z, hm, rfl, -, -, -⟩
  · rw [hd_top] at h1; omega
  · rw [hd_var] at h1; omega
  · exact ⟨a, b, rfl, ha, hb⟩
  · rw [hd_all] at h1; omega
  · rw [hd_rec] at h1; omega
theorem hd_is_all {d : Nat} {t : Ty} (h : ok d t = true) (h1 : hd t = 2) : ∃ a b, t = tAll a b ∧ ok d a = true ∧ ok (d + 1) b = true := by
  rcases ok_cases h with rfl | ⟨k, hk, rfl⟩ | ⟨a, b, rfl, -, -⟩ | ⟨a, b, rfl, ha, hb⟩ | ⟨m, x, y, z, hm, rfl, -, -, -⟩
  · rw [hd_top] at h1; omega
  · rw [hd_var] at h1; omega
  · rw [hd_fun] at h1; omega
  · exact ⟨a, b, rfl, ha, hb⟩
  · rw [hd_rec] at h1; omega
/-- both heights of a task -/
def tht (z : Tsk) : Nat := hgt (oh z.1) z.2.1 + hgt (oh z.1) z.2.2
theorem stl_h {Γ : List Ty} {m k B : Nat} {x y : Ty} (h : hgt (oh Γ) x + hgt (oh Γ) y + 1 ≤ B) : ∀ z ∈ stl Γ m k x y, tht z + 1 ≤ B := by
  intro z hz
  unfold stl at hz
  split at hz
  · rw [List.mem_singleton] at hz
    subst hz
    exact h
  · cases hz
theorem hgt_pos {d : Nat} {t : Ty} (h : ok d t = true) (ω : List Nat) : 1 ≤ hgt ω t := by
  rcases ok_cases h with rfl | ⟨k, -, rfl⟩ | ⟨a, b, rfl, -, -⟩ | ⟨a, b, rfl, -, -⟩ | ⟨m, x, y, z, hm, rfl, -, -, -⟩
  · rw [hgt_top]; exact Nat.le_refl _
  · rw [hgt_var]; omega
  · rw [hgt_fun]; omega
  · rw [hgt_all]; omega
  · rw [hgt_rec]; omega
theorem stp_h {Γ : List Ty} {s t : Ty} {l : List Tsk} (h : tok (Γ, s, t)) (e : stp Γ s t = some l) : ∀ q ∈ l, tht q + 1 ≤ hgt (oh Γ) s + hgt (oh Γ) t := by
  obtain ⟨hc0, hs0, ht0⟩ := h
  have hc : okc Γ := hc0
  have hs : ok Γ.length s = true := hs0
  have ht : ok Γ.length t = true := ht0
  clear hc0 hs0 ht0
  intro q hq
  unfold stp at e
  split at e
  · cases e; cases hq
  · rename_i n1
    split at e
    · rename_i n2
      cases e
      obtain ⟨k, hk, rfl⟩ := hd_is_var hs n2
      rw [hd_var, show 16 + k - 16 = k by omega] at hq
      rw [List.mem_singleton] at hq
      subst hq
      show (hgt (oh Γ) (lft k (Γ.length - k) (bnd Γ k)) + hgt (oh Γ) t) + 1 ≤ hgt (oh Γ) (tVar k) + hgt (oh Γ) t
      rw [hgt_expose hc hk, hgt_var]
      omega
    · rename_i n2
      split at e
      · rename_i n3
        split at e
        · rename_i hand
          cases e
          obtain ⟨m, x, y, z, hm, rfl⟩ := hd_is_rec hs n3.1 (by omega)
          obtain ⟨m', x', y', z', hm', rfl⟩ := hd_is_rec ht n3.2.1 n3.2.2
          rw [hgt_rec, hgt_rec]
          rcases List.mem_append.mp hq with hq | hq
          · exact stl_h (x := z) (y := z') (by omega) q hq
          · rcases List.mem_append.mp hq with hq | hq
            · exact stl_h (x := y) (y := y') (by omega) q hq
            · exact stl_h (x := x) (y := x') (by omega) q hq
        · cases e
      · rename_i n3
        split at e
        · cases e
        · rename_i n4
          split at e
          · rename_i n5
            cases e
            obtain ⟨a, b, rfl, -, -⟩ := hd_is_fun hs n5
            obtain ⟨a', b', rfl, -, -⟩ := hd_is_fun ht (by omega)
            rw [hgt_fun, hgt_fun]
            rcases List.mem_cons.mp hq with rfl | hq
            · show hgt (oh Γ) b + hgt (oh Γ) b' + 1 ≤ _
              omega
            · rw [List.mem_singleton] at hq
              subst hq
              show hgt (oh Γ) a' + hgt (oh Γ) a + 1 ≤ _
              omega
          · rename_i n5
            split at e
            · rename_i hfl
              cases e
              have n6 : hd s = 2 := by
                rcases ok_cases hs with rfl | ⟨k, hk, rfl⟩ | ⟨a, b, rfl, ha, hb⟩ | ⟨a, b, rfl, ha, hb⟩ | ⟨m, x, y, z, hm, rfl, h0, h1, h2⟩
                · rw [hd_top] at n4; omega
                · rw [hd_var] at n2; omega
                · rw [hd_fun] at n5; omega
                · rfl
                · rw [hd_rec] at *; omega
              obtain ⟨a, b, rfl, ha, -⟩ := hd_is_all hs n6
              obtain ⟨a', b', rfl, ha', -⟩ := hd_is_all ht (by omega)
              have ea : a = a' := flat_eq ha ha' hfl
              subst ea
              rw [hgt_all, hgt_all]
              rw [List.mem_singleton] at hq
              subst hq
              show hgt (hgt (oh Γ) a :: oh Γ) b + hgt (hgt (oh Γ) a :: oh Γ) b' + 1 ≤ _
              omega
            · cases e
/-- places and heights of open tasks bound how many are open at once -/
def sq (B : Nat) : List Tsk → Prop
  | [] => True
  | z :: l => l.length + 2 * tht z + 3 ≤ B ∧ sq B l
theorem sq_app {B H : Nat} : ∀ {a l : List Tsk}, (∀ z ∈ a, tht z + 1 ≤ H) → a.length ≤ 3 → l.length + 2 * H + 3 ≤ B → sq B l → sq B (a ++ l)
  | [], l, _, _, _, hl => hl
  | z :: a, l, ha, hn, hb, hl => by
    rw [List.length_cons] at hn
    refine ⟨?_, sq_app (fun y hy => ha y (List.mem_cons_of_mem _ hy)) (by omega) hb hl⟩
    have := ha z (List.mem_cons_self ..)
    show (a ++ l).length + 2 * tht z + 3 ≤ B
    rw [List.length_append]
    omega
theorem sn_sq {B : Nat} : ∀ (f : Nat) (l : List Tsk), (∀ z ∈ l, tok z) → sq B l → sn f l ≤ B
  | f, [], _, _ => by cases f <;> exact Nat.zero_le _
  | 0, z :: l, _, h => by
    have := h.1
    show l.length + 3 ≤ B
    omega
  | f + 1, (Γ, S, T) :: l, ht, h => by
    have h1 := h.1
    unfold sn
    refine Nat.max_le.mpr ⟨by omega, ?_⟩
    show (match stp Γ S T with | none => 0 | some l' => sn f (l' ++ l)) ≤ B
    cases e : stp Γ S T with
    | none => exact Nat.zero_le _
    | some l' =>
      have h2 := (stp_w (ht _ (List.mem_cons_self ..)) e).2
      have h3 := stp_h (ht _ (List.mem_cons_self ..)) e
      have h4 := (stp_shape e).1
      refine sn_sq f (l' ++ l) (fun y hy => ?_) (sq_app (H := tht (Γ, S, T)) h3 h4 h1 h.2)
      rcases List.mem_append.mp hy with hy | hy
      · exact h2 y hy
      · exact ht y (List.mem_cons_of_mem _ hy)
theorem sn_h {Γ : List Ty} {S T : Ty} (f : Nat) (h : tok (Γ, S, T)) : sn f [(Γ, S, T)] ≤ 2 * (hgt (oh Γ) S + hgt (oh Γ) T) + 3 :=
  sn_sq f _ (fun z hz => by rw [List.mem_singleton] at hz; subst hz; exact h) ⟨by show 0 + 2 * (hgt (oh Γ) S + hgt (oh Γ) T) + 3 ≤ _; omega, trivial⟩
