/-! THE MEASURE OF ROWS: values for positive places (ω) and for comparisons (υ). -/
def vlr (b : Bool) (e x : Nat) : Nat := if b then max e (1 + x) else 1 + max e x
def nvr (b : Bool) (e y : Nat) : Nat := if b then max e y else e + y
def mrz (b : Bool) (e : Nat) : Bool → List Nat → List Nat → Ty → Nat
  | d, ω, υ, .tag c (.append s t) => if c = 2 then (2 + e) + mrz b e d (vlr b e (mrz b e true ω υ s) :: ω) ((1 + pmz (qu e) true υ s) :: υ) t else if c = 1 then (1 + e) + (mrz b e (!d) ω υ s + mrz b e d ω υ t) else (1 + e) + (mrz b e d ω υ s + mrz b e d ω υ t)
  | d, ω, υ, .tag c .nil => if 16 ≤ c then (if d then vw ω (c - 16) else nvr b e (vw υ (c - 16))) else 0
  | d, ω, υ, .append s t => mrz b e d ω υ s + mrz b e d ω υ t
  | _, _, _, _ => 0
section PmJ5
variable {b d : Bool} {e : Nat}
theorem mrz_top (ω υ : List Nat) : mrz b e d ω υ tTop = 0 := by simp [tTop, mrz]
theorem mrz_var (ω υ : List Nat) (k : Nat) : mrz b e d ω υ (tVar k) = if d then vw ω k else nvr b e (vw υ k) := by
  simp [tVar, mrz]
theorem mrz_vt (ω υ : List Nat) (k : Nat) : mrz b e true ω υ (tVar k) = vw ω k := mrz_var ω υ k
theorem mrz_vf (ω υ : List Nat) (k : Nat) : mrz b e false ω υ (tVar k) = nvr b e (vw υ k) := mrz_var ω υ k
theorem mrz_fun (ω υ : List Nat) (s t : Ty) : mrz b e d ω υ (tFun s t) = (1 + e) + (mrz b e (!d) ω υ s + mrz b e d ω υ t) := by simp [tFun, mrz]
theorem mrz_all (ω υ : List Nat) (s t : Ty) : mrz b e d ω υ (tAll s t) = (2 + e) + mrz b e d (vlr b e (mrz b e true ω υ s) :: ω) ((1 + pmz (qu e) true υ s) :: υ) t := by simp [tAll, mrz]
theorem mrz_rec (ω υ : List Nat) {m : Nat} (x y z : Ty) : mrz b e d ω υ (tRec m x y z) = (1 + e) + (mrz b e d ω υ x + (mrz b e d ω υ y + mrz b e d ω υ z)) := by
  unfold tRec
  rw [mrz, if_neg (by omega), if_neg (by omega), mrz]
theorem mrz_nil (ω υ : List Nat) : mrz b e d ω υ .nil = 0 := by simp [mrz]
end PmJ5
/-- the values of the variables around -/
def oz (b : Bool) (e : Nat) : List Ty → List Nat
  | [] => []
  | s :: Γ => vlr b e (mrz b e true (oz b e Γ) (oq (qu e) Γ) s) :: oz b e Γ
theorem oz_len (b : Bool) (e : Nat) : ∀ Γ : List Ty, (oz b e Γ).length = Γ.length
  | [] => rfl
  | s :: Γ => by show (oz b e Γ).length + 1 = Γ.length + 1; rw [oz_len b e Γ]
theorem mrz_lft (b : Bool) (e : Nat) (ν ω ν' υ : List Nat) (l1 : ν'.length = ν.length) (l2 : υ.length = ω.length) : ∀ (t : Ty) (d : Bool) (μ μ' : List Nat), μ'.length = μ.length → ok (ω.length + μ.length) t = true → mrz b e d (μ ++ (ν ++ ω)) (μ' ++ (ν' ++ υ)) (lft ω.length ν.length t) = mrz b e d (μ ++ ω) (μ' ++ υ) t
  | .tag c (.append s t), d, μ, μ', l3, h => by
    by_cases h1 : c = 1
    · subst h1
      have h := ok_fun.mp h
      have e1 : lft ω.length ν.length (.tag 1 (.append s t)) = tFun (lft ω.length ν.length s) (lft ω.length ν.length t) := by
        show Std.Format.tag (if 16 + ω.length ≤ 1 then 1 + ν.length else 1) _ = _
        rw [if_neg (by omega)]; rfl
      rw [e1, mrz_fun, mrz_lft b e ν ω ν' υ l1 l2 s (!d) μ μ' l3 h.1, mrz_lft b e ν ω ν' υ l1 l2 t d μ μ' l3 h.2]
      exact (mrz_fun _ _ _ _).symm
    · by_cases h2 : c = 2
      · subst h2
        have h := ok_all.mp h
        have e1 : lft ω.length ν.length (.tag 2 (.append s t)) = tAll (lft ω.length ν.length s) (lft ω.length ν.length t) := by
          show Std.Format.tag (if 16 + ω.length ≤ 2 then 2 + ν.length else 2) _ = _
          rw [if_neg (by omega)]; rfl
        have ih := mrz_lft b e ν ω ν' υ l1 l2 t d (vlr b e (mrz b e true (μ ++ ω) (μ' ++ υ) s) :: μ) ((1 + pmz (qu e) true (μ' ++ υ) s) :: μ') (by simp only [List.length_cons]; omega) (by simp only [List.length_cons]; rw [← Nat.add_assoc]; exact h.2)
        have ip := pmz_lft (qu e) ν' υ s true μ' (by rw [l2, l3]; exact h.1)
        rw [l1, l2] at ip
        rw [e1, mrz_all, mrz_lft b e ν ω ν' υ l1 l2 s true μ μ' l3 h.1, ip]
        rw [List.cons_append, List.cons_append, List.cons_append, List.cons_append] at ih
        rw [ih]
        exact (mrz_all _ _ _ _).symm
      · match t, h with
        | .append y z, h =>
          rw [ok] at h
          simp only [Bool.and_eq_true, decide_eq_true_eq] at h
          obtain ⟨hc, q0, q1, q2⟩ := h
          have key : ∀ (k : Nat) (t : Ty), (ok (ω.length + μ.length) t = true → mrz b e d (μ ++ (ν ++ ω)) (μ' ++ (ν' ++ υ)) (lft ω.length ν.length t) = mrz b e d (μ ++ ω) (μ' ++ υ) t) → (if bit (c - 8) k = true then ok (ω.length + μ.length) t else isNil t) = true → mrz b e d (μ ++ (ν ++ ω)) (μ' ++ (ν' ++ υ)) (lft ω.length ν.length t) = mrz b e d (μ ++ ω) (μ' ++ υ) t := by
            intro k t ht hk
            split at hk
            · exact ht hk
            · rw [isNil_eq hk]
              show mrz b e d _ _ .nil = mrz b e d _ _ .nil
              rw [mrz_nil, mrz_nil]
          have e1 : lft ω.length ν.length (.tag c (.append s (.append y z))) = tRec (c - 8) (lft ω.length ν.length s) (lft ω.length ν.length y) (lft ω.length ν.length z) := by
            show Std.Format.tag (if 16 + ω.length ≤ c then c + ν.length else c) _ = _
            rw [if_neg (by omega)]
            unfold tRec
            rw [show 8 + (c - 8) = c by omega]; rfl
          have e2 : Std.Format.tag c (.append s (.append y z)) = tRec (c - 8) s y z := by
            unfold tRec
            rw [show 8 + (c - 8) = c by omega]
          rw [e1, e2, mrz_rec, mrz_rec, key 0 s (mrz_lft b e ν ω ν' υ l1 l2 s d μ μ' l3) q0, key 1 y (mrz_lft b e ν ω ν' υ l1 l2 y d μ μ' l3) q1, key 2 z (mrz_lft b e ν ω ν' υ l1 l2 z d μ μ' l3) q2]
        | .tag _ _, h => simp [ok, h1, h2] at h
        | .nil, h => simp [ok, h1, h2] at h
        | .line, h => simp [ok, h1, h2] at h
        | .align _, h => simp [ok, h1, h2] at h
        | .text _, h => simp [ok, h1, h2] at h
        | .nest _ _, h => simp [ok, h1, h2] at h
        | .group _ _, h => simp [ok, h1, h2] at h
  | .tag c .nil, d, μ, μ', l3, h => by
    rcases ok_cases h with e1 | ⟨k, hk, e1⟩ | ⟨a', b', e1, -, -⟩ | ⟨a', b', e1, -, -⟩ | ⟨m, x, y, z, hm, e1, -, -, -⟩
    · cases e1
      show mrz b e d _ _ (Std.Format.tag (if 16 + ω.length ≤ 0 then 0 + ν.length else 0) .nil) = _
      rw [if_neg (by omega)]
      exact (mrz_top _ _).trans (mrz_top _ _).symm
    · cases e1
      show mrz b e d _ _ (Std.Format.tag (if 16 + ω.length ≤ 16 + k then 16 + k + ν.length else 16 + k) .nil) = mrz b e d _ _ (tVar k)
      rw [mrz_var]
      by_cases hq : ω.length ≤ k
      · have v2 := vw_app_hi μ' ν' υ k (by omega) (by omega)
        rw [l1] at v2
        rw [if_pos (by omega), show 16 + k + ν.length = 16 + (k + ν.length) by omega]
        show mrz b e d _ _ (tVar (k + ν.length)) = _
        rw [mrz_var, vw_app_hi μ ν ω k hq hk, v2]
      · have v2 : vw (μ' ++ (ν' ++ υ)) k = vw (μ' ++ υ) k := by
          rw [vw_app_lo μ' υ k (by omega), ← List.append_assoc, vw_app_lo (μ' ++ ν') υ k (by omega)]
        rw [if_neg (by omega)]
        show mrz b e d _ _ (tVar k) = _
        rw [mrz_var, v2, vw_app_lo μ ω k (by omega), ← List.append_assoc, vw_app_lo (μ ++ ν) ω k (by omega)]
    · cases e1
    · cases e1
    · cases e1
  | .tag c .line, d, μ, μ', _, h => by simp [ok] at h
  | .tag c (.align _), d, μ, μ', _, h => by simp [ok] at h
  | .tag c (.text _), d, μ, μ', _, h => by simp [ok] at h
  | .tag c (.nest _ _), d, μ, μ', _, h => by simp [ok] at h
  | .tag c (.group _ _), d, μ, μ', _, h => by simp [ok] at h
  | .tag c (.tag _ _), d, μ, μ', _, h => by simp [ok] at h
  | .nil, d, μ, μ', _, h => by simp [ok] at h
  | .line, d, μ, μ', _, h => by simp [ok] at h
  | .align _, d, μ, μ', _, h => by simp [ok] at h
  | .text _, d, μ, μ', _, h => by simp [ok] at h
  | .nest _ _, d, μ, μ', _, h => by simp [ok] at h
  | .group _ _, d, μ, μ', _, h => by simp [ok] at h
  | .append _ _, d, μ, μ', _, h => by simp [ok] at h
theorem oz_bnd (b : Bool) (e : Nat) : ∀ (Γ : List Ty) (k : Nat), okc Γ → k < Γ.length → ∃ ν ω ν' υ : List Nat, oz b e Γ = ν ++ ω ∧ oq (qu e) Γ = ν' ++ υ ∧ ω.length = k ∧ υ.length = k ∧ ok k (bnd Γ k) = true ∧ vw (oz b e Γ) k = vlr b e (mrz b e true ω υ (bnd Γ k))
  | [], _, _, h => absurd h (Nat.not_lt_zero _)
  | s :: Γ, k, hc, hk => by
    by_cases h : k = Γ.length
    · subst h
      have e1 : vw (oz b e (s :: Γ)) Γ.length = vlr b e (mrz b e true (oz b e Γ) (oq (qu e) Γ) s) := by
        show (if Γ.length = (oz b e Γ).length then _ else _) = _
        rw [if_pos (oz_len b e Γ).symm]
      have e2 : bnd (s :: Γ) Γ.length = s := by
        show (if Γ.length = Γ.length then s else _) = s
        rw [if_pos rfl]
      rw [e1, e2]
      exact ⟨[vlr b e (mrz b e true (oz b e Γ) (oq (qu e) Γ) s)], oz b e Γ, [1 + pmz (qu e) true (oq (qu e) Γ) s], oq (qu e) Γ, rfl, rfl, oz_len b e Γ, oq_len _ Γ, hc.1, rfl⟩
    · obtain ⟨ν, ω, ν', υ, e1, e2, e3, e4, e5, e6⟩ := oz_bnd b e Γ k hc.2 (by simp only [List.length_cons] at hk; omega)
      have e7 : vw (oz b e (s :: Γ)) k = vw (oz b e Γ) k := by
        show (if k = (oz b e Γ).length then _ else vw (oz b e Γ) k) = _
        rw [if_neg (by rw [oz_len]; exact h)]
      have e8 : bnd (s :: Γ) k = bnd Γ k := by rw [bnd, if_neg h]
      rw [e7, e8]
      exact ⟨vlr b e (mrz b e true (oz b e Γ) (oq (qu e) Γ) s) :: ν, ω, (1 + pmz (qu e) true (oq (qu e) Γ) s) :: ν', υ, by rw [oz, e1]; rfl, by rw [oq, e2]; rfl, e3, e4, e5, e6⟩
theorem oz_expose (b : Bool) (e : Nat) {Γ : List Ty} {k : Nat} (hc : okc Γ) (hk : k < Γ.length) : vw (oz b e Γ) k = vlr b e (mrz b e true (oz b e Γ) (oq (qu e) Γ) (lft k (Γ.length - k) (bnd Γ k))) := by
  obtain ⟨ν, ω, ν', υ, e1, e2, e3, e4, e5, e6⟩ := oz_bnd b e Γ k hc hk
  subst e3
  have hl : ν.length = Γ.length - ω.length := by
    have := oz_len b e Γ
    rw [e1, List.length_append] at this
    omega
  have hl' : ν'.length = ν.length := by
    have a1 := oz_len b e Γ
    have a2 := oq_len (qu e) Γ
    rw [e1, List.length_append] at a1
    rw [e2, List.length_append] at a2
    omega
  rw [e6, e1, e2, ← hl]
  congr 1
  exact (mrz_lft b e ν ω ν' υ hl' e4 (bnd Γ ω.length) true [] [] rfl (by simpa using e5)).symm
/-- a comparison takes no more than the measure of rows -/
theorem qu_mrz {b : Bool} {e : Nat} (e1 : 1 ≤ e) : ∀ (t : Ty) (d : Bool) (ω υ : List Nat), ω.length = υ.length → ok ω.length t = true → (∀ k, k < ω.length → (if b then vw υ k ≤ vw ω k ∧ e ≤ vw ω k else vw υ k + e ≤ vw ω k)) → (pmz (qu e) true υ t ≤ mrz b e d ω υ t ∧ pmz (qu e) false υ t ≤ mrz b e d ω υ t) ∧ (hd t ≠ 0 → hd t < 16 → pmz (qu e) true υ t + 1 + e ≤ mrz b e d ω υ t ∧ pmz (qu e) false υ t + 1 ≤ mrz b e d ω υ t)
  | .tag c (.append s t), d, ω, υ, hl, h, hv => by
    by_cases h1 : c = 1
    · subst h1
      have h := ok_fun.mp h
      have i1 := (qu_mrz e1 s (!d) ω υ hl h.1 hv).1
      have i2 := (qu_mrz e1 t d ω υ hl h.2 hv).1
      have p1 : pmz (qu e) true υ (tFun s t) = 0 + (pmz (qu e) false υ s + pmz (qu e) true υ t) := pmz_fun _ _ _
      have p2 : pmz (qu e) false υ (tFun s t) = e + (pmz (qu e) true υ s + pmz (qu e) false υ t) := pmz_fun _ _ _
      have p3 : mrz b e d ω υ (tFun s t) = (1 + e) + (mrz b e (!d) ω υ s + mrz b e d ω υ t) := mrz_fun _ _ _ _
      show (pmz (qu e) true υ (tFun s t) ≤ mrz b e d ω υ (tFun s t) ∧ pmz (qu e) false υ (tFun s t) ≤ mrz b e d ω υ (tFun s t)) ∧ (_ → _ → pmz (qu e) true υ (tFun s t) + 1 + e ≤ mrz b e d ω υ (tFun s t) ∧ pmz (qu e) false υ (tFun s t) + 1 ≤ mrz b e d ω υ (tFun s t))
      rw [p1, p2, p3]
      exact ⟨by omega, fun _ _ => by omega⟩
    · by_cases h2 : c = 2
      · subst h2
        have h := ok_all.mp h
        have i1 := (qu_mrz e1 s true ω υ hl h.1 hv).1
        have i2 := (qu_mrz e1 t d (vlr b e (mrz b e true ω υ s) :: ω) ((1 + pmz (qu e) true υ s) :: υ) (by simp only [List.length_cons]; omega) h.2 (by
          intro k hk
          show (if b then (if k = υ.length then _ else vw υ k) ≤ (if k = ω.length then _ else vw ω k) ∧ e ≤ (if k = ω.length then _ else vw ω k) else (if k = υ.length then _ else vw υ k) + e ≤ (if k = ω.length then _ else vw ω k))
          rw [hl]
          by_cases hk2 : k = υ.length
          · rw [if_pos hk2, if_pos hk2]
            cases b with
            | true =>
              show 1 + pmz (qu e) true υ s ≤ max e (1 + mrz true e true ω υ s) ∧ e ≤ max e (1 + mrz true e true ω υ s)
              omega
            | false =>
              show 1 + pmz (qu e) true υ s + e ≤ 1 + max e (mrz false e true ω υ s)
              have i3 := (qu_mrz e1 s true ω υ hl h.1 hv).2
              rcases ok_cases h.1 with rfl | ⟨j, hj, rfl⟩ | ⟨a', b', rfl, -, -⟩ | ⟨a', b', rfl, -, -⟩ | ⟨m, x, y, z, hm, rfl, -, -, -⟩
              · rw [pmz_top]
                show 1 + 0 + e ≤ _
                omega
              · have := hv j hj
                rw [pmz_vt, mrz_vt]
                have this : vw υ j + e ≤ vw ω j := this
                omega
              · have := (i3 (by rw [hd_fun]; omega) (by rw [hd_fun]; omega)).1
                omega
              · have := (i3 (by rw [hd_all]; omega) (by rw [hd_all]; omega)).1
                omega
              · have := (i3 (by rw [hd_rec]; omega) (by rw [hd_rec]; omega)).1
                omega
          · rw [if_neg hk2, if_neg hk2]
            exact hv k (by simp only [List.length_cons] at hk; omega))).1
        have p1 : pmz (qu e) true υ (tAll s t) = 1 + pmz (qu e) true ((1 + pmz (qu e) true υ s) :: υ) t := pmz_all _ _ _
        have p2 : pmz (qu e) false υ (tAll s t) = (1 + e) + pmz (qu e) false ((1 + pmz (qu e) true υ s) :: υ) t := pmz_all _ _ _
        have p3 : mrz b e d ω υ (tAll s t) = (2 + e) + mrz b e d (vlr b e (mrz b e true ω υ s) :: ω) ((1 + pmz (qu e) true υ s) :: υ) t := mrz_all _ _ _ _
        show (pmz (qu e) true υ (tAll s t) ≤ mrz b e d ω υ (tAll s t) ∧ pmz (qu e) false υ (tAll s t) ≤ mrz b e d ω υ (tAll s t)) ∧ (_ → _ → pmz (qu e) true υ (tAll s t) + 1 + e ≤ mrz b e d ω υ (tAll s t) ∧ pmz (qu e) false υ (tAll s t) + 1 ≤ mrz b e d ω υ (tAll s t))
        rw [p1, p2, p3]
        exact ⟨by omega, fun _ _ => by omega⟩
      · match t, h with
        | .append y z, h =>
          rw [ok] at h
          simp only [Bool.and_eq_true, decide_eq_true_eq] at h
          obtain ⟨hc, q0, q1, q2⟩ := h
          have key : ∀ (k : Nat) (t : Ty), (ok ω.length t = true → pmz (qu e) true υ t ≤ mrz b e d ω υ t ∧ pmz (qu e) false υ t ≤ mrz b e d ω υ t) → (if bit (c - 8) k = true then ok ω.length t else isNil t) = true → pmz (qu e) true υ t ≤ mrz b e d ω υ t ∧ pmz (qu e) false υ t ≤ mrz b e d ω υ t := by
            intro k t ht hk
            split at hk
            · exact ht hk
            · rw [isNil_eq hk, pmz_nil, pmz_nil]
              exact ⟨Nat.zero_le _, Nat.zero_le _⟩
          have e2 : Std.Format.tag c (.append s (.append y z)) = tRec (c - 8) s y z := by
            unfold tRec
            rw [show 8 + (c - 8) = c by omega]
          have k0 := key 0 s (fun o => (qu_mrz e1 s d ω υ hl o hv).1) q0
          have k1 := key 1 y (fun o => (qu_mrz e1 y d ω υ hl o hv).1) q1
          have k2 := key 2 z (fun o => (qu_mrz e1 z d ω υ hl o hv).1) q2
          have p1 : pmz (qu e) true υ (tRec (c - 8) s y z) = (0 + 0 * mis (c - 8)) + (pmz (qu e) true υ s + (pmz (qu e) true υ y + pmz (qu e) true υ z)) := pmz_rec _ _ _ _
          have p2 : pmz (qu e) false υ (tRec (c - 8) s y z) = (e + 0 * mis (c - 8)) + (pmz (qu e) false υ s + (pmz (qu e) false υ y + pmz (qu e) false υ z)) := pmz_rec _ _ _ _
          have p3 : mrz b e d ω υ (tRec (c - 8) s y z) = (1 + e) + (mrz b e d ω υ s + (mrz b e d ω υ y + mrz b e d ω υ z)) := mrz_rec _ _ _ _ _
          rw [e2, p1, p2, p3]
          exact ⟨by omega, fun _ _ => by omega⟩
        | .tag _ _, h => simp [ok, h1, h2] at h
        | .nil, h => simp [ok, h1, h2] at h
        | .line, h => simp [ok, h1, h2] at h
        | .align _, h => simp [ok, h1, h2] at h
        | .text _, h => simp [ok, h1, h2] at h
        | .nest _ _, h => simp [ok, h1, h2] at h
        | .group _ _, h => simp [ok, h1, h2] at h
  | .tag c .nil, d, ω, υ, hl, h, hv => by
    rcases ok_cases h with e2 | ⟨k, hk, e2⟩ | ⟨a', b', e2, -, -⟩ | ⟨a', b', e2, -, -⟩ | ⟨m, x, y, z, hm, e2, -, -, -⟩
    · rw [e2, pmz_top, pmz_top]
      exact ⟨⟨Nat.zero_le _, Nat.zero_le _⟩, fun h0 => absurd rfl h0⟩
    · rw [e2, pmz_vt, pmz_vf, mrz_var]
      have := hv k hk
      refine ⟨?_, fun _ h16 => absurd h16 (by rw [hd_var]; omega)⟩
      have q4 : qu e false 4 = e := rfl
      rw [q4]
      unfold nvr
      cases b <;> cases d <;> simp at this ⊢ <;> omega
    · cases e2
    · cases e2
    · cases e2
  | .tag c .line, d, ω, υ, _, h, _ => by simp [ok] at h
  | .tag c (.align _), d, ω, υ, _, h, _ => by simp [ok] at h
  | .tag c (.text _), d, ω, υ, _, h, _ => by simp [ok] at h
  | .tag c (.nest _ _), d, ω, υ, _, h, _ => by simp [ok] at h
  | .tag c (.group _ _), d, ω, υ, _, h, _ => by simp [ok] at h
  | .tag c (.tag _ _), d, ω, υ, _, h, _ => by simp [ok] at h
  | .nil, d, ω, υ, _, h, _ => by simp [ok] at h
  | .line, d, ω, υ, _, h, _ => by simp [ok] at h
  | .align _, d, ω, υ, _, h, _ => by simp [ok] at h
  | .text _, d, ω, υ, _, h, _ => by simp [ok] at h
  | .nest _ _, d, ω, υ, _, h, _ => by simp [ok] at h
  | .group _ _, d, ω, υ, _, h, _ => by simp [ok] at h
  | .append _ _, d, ω, υ, _, h, _ => by simp [ok] at h
