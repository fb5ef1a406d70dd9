/-! CHAINS IN THE TYPES OF TERMS. -/
def zl (n : Nat) : List Nat := List.replicate n 0
theorem zl_len (n : Nat) : (zl n).length = n := List.length_replicate
theorem zl_succ (n : Nat) : zl (n + 1) = 0 :: zl n := rfl
theorem zl_app (m n : Nat) : zl m ++ zl n = zl (m + n) := List.replicate_append_replicate
theorem vw_zl : ∀ (n k : Nat), vw (zl n) k = 0
  | 0, _ => rfl
  | n + 1, k => by
    rw [zl_succ, vw_cons]
    split
    · rfl
    · exact vw_zl n k
theorem chd_up {e e' : Nat} (he : e ≤ e') : ∀ (t : Ty) (ψ : List Nat), chd e ψ t → chd e' ψ t
  | .tag c (.append a b), ψ, h => by
    rw [chd] at h ⊢
    by_cases c2 : c = 2
    · rw [if_pos c2] at h ⊢
      exact ⟨chd_up he a ψ h.1, Nat.le_trans h.2.1 he, chd_up he b _ h.2.2⟩
    · rw [if_neg c2] at h ⊢
      exact ⟨chd_up he a ψ h.1, chd_up he b ψ h.2⟩
  | .append a b, ψ, h => by
    rw [chd] at h ⊢
    exact ⟨chd_up he a ψ h.1, chd_up he b ψ h.2⟩
  | .tag c .nil, _, _ => by simp [chd]
  | .tag c .line, _, _ => by simp [chd]
  | .tag c (.align _), _, _ => by simp [chd]
  | .tag c (.text _), _, _ => by simp [chd]
  | .tag c (.nest _ _), _, _ => by simp [chd]
  | .tag c (.group _ _), _, _ => by simp [chd]
  | .tag c (.tag _ _), _, _ => by simp [chd]
  | .nil, _, _ => by simp [chd]
  | .line, _, _ => by simp [chd]
  | .align _, _, _ => by simp [chd]
  | .text _, _, _ => by simp [chd]
  | .nest _ _, _, _ => by simp [chd]
  | .group _ _, _, _ => by simp [chd]
theorem cxi_up {e e' : Nat} (he : e ≤ e') : ∀ {ψ : List Nat} {Γ : List Ty}, cxi e ψ Γ → cxi e' ψ Γ
  | [], [], _ => trivial
  | _ :: _, _ :: _, h => ⟨chd_up he _ _ h.1, cxi_up he h.2⟩
  | [], _ :: _, h => h.elim
  | _ :: _, [], h => h.elim
/-- one more for all -/
theorem chd_shift {e : Nat} : ∀ (f : Nat) (t : Ty) (ψ ψ' : List Nat), (flat t).length ≤ f → ψ'.length = ψ.length → ok ψ.length t = true → (∀ j, j < ψ.length → vw ψ' j ≤ vw ψ j + 1) → chd e ψ t → chd (e + 1) ψ' t
  | 0, t, ψ, ψ', hf, hl, o, hw, h => by have := flat_pos o; omega
  | f + 1, t, ψ, ψ', hf, hl, o, hw, h => by
    rcases ok_cases o with rfl | ⟨k, hk, rfl⟩ | ⟨a, c, rfl, ha, hb⟩ | ⟨a, c, rfl, ha, hb⟩ | ⟨l, x, y, z, hm, rfl, h0, h1, h2⟩
    · exact (chd_top _).mpr trivial
    · exact (chd_var _ _).mpr trivial
    · rw [flat_fun, List.length_cons, List.length_append] at hf
      rw [chd_fun] at h ⊢
      exact ⟨chd_shift f a ψ ψ' (by omega) hl ha hw h.1, chd_shift f c ψ ψ' (by omega) hl hb hw h.2⟩
    · rw [flat_all, List.length_cons, List.length_append] at hf
      rw [chd_all] at h ⊢
      have q : chi ψ' a ≤ chi ψ a + 1 := by
        unfold chi
        split
        · rename_i c
          obtain ⟨k, hk, rfl⟩ := hd_is_var ha c
          rw [hd_var, show 16 + k - 16 = k by omega]
          have := hw k hk
          omega
        · omega
      refine ⟨chd_shift f a ψ ψ' (by omega) hl ha hw h.1, by omega, ?_⟩
      refine chd_shift f c (chi ψ a :: ψ) (chi ψ' a :: ψ') (by omega) (by rw [List.length_cons, List.length_cons, hl]) (by rw [List.length_cons]; exact hb) (fun j hj => ?_) h.2.2
      rw [vw_cons, vw_cons, hl]
      by_cases e : j = ψ.length
      · rw [if_pos e, if_pos e]; exact q
      · rw [if_neg e, if_neg e]; exact hw j (by rw [List.length_cons] at hj; omega)
    · rw [flat_rec, List.length_cons, List.length_append, List.length_append] at hf
      rw [chd_rec] at h ⊢
      have key : ∀ (i : Nat) (p : Ty), (flat p).length ≤ f → okl ψ.length l i p → chd e ψ p → chd (e + 1) ψ' p := by
        intro i p hp ho hn
        unfold okl at ho
        by_cases hb : bit l i = true
        · rw [if_pos hb] at ho
          exact chd_shift f p ψ ψ' hp hl ho hw hn
        · rw [if_neg hb] at ho
          rw [ho]; exact (chd_nil _).mpr trivial
      exact ⟨key 0 x (by omega) h0 h.1, key 1 y (by omega) h1 h.2.1, key 2 z (by omega) h2 h.2.2⟩
/-- the texts of a term have short chains -/
def NKt (k : Nat) : Nat → Ty → Nat → Prop
  | 0, _, _ => True
  | f + 1, t, D => (nKd t = 6 → chd k (zl D) (nX t) ∧ NKt k f (nY t) D) ∧ (nKd t = 7 ∨ nKd t = 12 → NKt k f (nX t) D ∧ NKt k f (nY t) D) ∧ (nKd t = 8 → chd k (zl D) (nX t) ∧ NKt k f (nY t) (D + 1)) ∧ (nKd t = 9 → NKt k f (nX t) D ∧ chd k (zl D) (nY t)) ∧ (nKd t = 10 → ∀ g, g < 3 → bit (nMk t) g = true → NKt k f (nP t g) D) ∧ (nKd t = 11 → NKt k f (nX t) D)
/-- binders in a term whose bound is a variable -/
def abn : Nat → Ty → Nat
  | 0, _ => 0
  | f + 1, t => if nKd t = 6 then abn f (nY t) else if nKd t = 8 then (if 16 ≤ hd (nX t) then 1 else 0) + abn f (nY t) else if nKd t = 9 ∨ nKd t = 11 then abn f (nX t) else if nKd t = 10 then (if bit (nMk t) 0 = true then abn f (nX t) else 0) + ((if bit (nMk t) 1 = true then abn f (nY t) else 0) + (if bit (nMk t) 2 = true then abn f (nZ t) else 0)) else if nKd t = 7 ∨ nKd t = 12 then abn f (nX t) + abn f (nY t) else 0
/-- and around it -/
def acx : List Ty → Nat
  | [] => 0
  | b :: Γ => (if 16 ≤ hd b then 1 else 0) + acx Γ
theorem acx_cl : ∀ (Γ : List Ty), okc Γ → ∀ j, j < Γ.length → vw (cl Γ) j ≤ 1 + acx Γ
  | [], _, _, hj => absurd hj (Nat.not_lt_zero _)
  | b :: Γ, hc, j, hj => by
    show (if j = (cl Γ).length then 1 + chn (cl Γ) b else vw (cl Γ) j) ≤ 1 + ((if 16 ≤ hd b then 1 else 0) + acx Γ)
    rw [cl_len]
    by_cases e : j = Γ.length
    · rw [if_pos e]
      unfold chn
      by_cases c : 16 ≤ hd b
      · rw [if_pos c, if_pos c]
        obtain ⟨k, hk, rfl⟩ := hd_is_var hc.1 c
        rw [hd_var, show 16 + k - 16 = k by omega]
        have := acx_cl Γ hc.2 k hk
        omega
      · rw [if_neg c, if_neg c]; omega
    · rw [if_neg e]
      have := acx_cl Γ hc.2 j (by rw [List.length_cons] at hj; omega)
      omega
/-- so have their types -/
theorem tyF_chd {k0 : Nat} : ∀ (f : Nat) (t : Ty) (Γ : List Ty) (Δ : List (Nat × Ty × Nat)) (A : Ty), TWf f Γ.length (Δ.map (fun a => a.1)) t → TE Γ Δ → NKt k0 f t Γ.length → cxi k0 (zl Γ.length) Γ → (∀ a ∈ Δ, chd k0 (zl a.2.2) a.2.1) → tyF f t Γ Δ = .inr A → chd (k0 + abn f t) (zl Γ.length) A
  | 0, _, _, _, _, w, _, _, _, _, _ => w.elim
  | f + 1, t, Γ, Δ, A, w, he, na, hv, hd', e0 => by
    obtain ⟨w0, w5, w6, w7, w8, w9, w10, w11, w12⟩ := w
    obtain ⟨v6, v7, v8, v9, v10, v11⟩ := na
    have ih := fun t' Γ' Δ' A' => tyF_chd (k0 := k0) f t' Γ' Δ' A'
    have io := fun t' Γ' Δ' A' => tyF_ok f t' Γ' Δ' A'
    unfold tyF at e0
    by_cases c5 : nKd t = 5
    · rw [if_pos c5] at e0
      obtain ⟨e, l⟩ := tyO_in e0
      obtain ⟨a, ha⟩ := dlk_some (w5 c5)
      rw [ha] at e
      injection e with e
      rw [← e]
      have e2 : ok a.2 a.1 = true := (he.2.2 _ (dlk_mem ha)).2.1
      have q := chd_lft k0 (zl (Γ.length - a.2)) (zl a.2) a.1 [] (by rw [zl_len]; simpa using e2)
      rw [List.nil_append, List.nil_append, zl_app, zl_len, zl_len, show Γ.length - a.2 + a.2 = Γ.length by have : a.2 ≤ Γ.length := (he.2.2 _ (dlk_mem ha)).1; omega] at q
      exact chd_up (Nat.le_add_right _ _) _ _ (q.mpr (hd' _ (dlk_mem ha)))
    rw [if_neg c5] at e0
    by_cases c6 : nKd t = 6
    · rw [if_pos c6] at e0
      obtain ⟨B, hB, h1⟩ := tbd_in e0
      obtain ⟨-, x1, x2, x3⟩ := w6 c6
      have q := ih (nY t) Γ ((nPl t, nX t, Γ.length) :: Δ) B x3 (he.lam x1 x2) (v6 c6).2 hv (fun a ha => by
        rcases List.mem_cons.mp ha with e | e
        · rw [e]; exact (v6 c6).1
        · exact hd' a e) hB
      obtain ⟨e, l⟩ := szt_in h1
      subst e
      have ea : abn (f + 1) t = abn f (nY t) := by rw [abn, if_pos c6]
      rw [chd_fun, ea]
      exact ⟨chd_up (Nat.le_add_right _ _) _ _ (v6 c6).1, q⟩
    rw [if_neg c6] at e0
    by_cases c7 : nKd t = 7
    · rw [if_pos c7] at e0
      obtain ⟨S, hS, h1⟩ := tbd_in e0
      obtain ⟨T, hT, h1⟩ := tbd_in h1
      obtain ⟨e, l⟩ := tyO_in h1
      obtain ⟨x1, x2⟩ := w7 (Or.inl c7)
      obtain ⟨s1, s2'⟩ := io _ _ _ _ x1 he hS
      obtain ⟨o1, o2⟩ := expo_ok he.1 he.2.1 Γ.length S s1 s2'
      have q := ih _ _ _ _ x1 he (v7 (Or.inl c7)).1 hv hd' hS
      have q2 := chd_expo he.1 (cxi_up (Nat.le_add_right k0 (abn f (nX t))) hv) Γ.length S s1 q
      unfold tyA at e
      by_cases c : hd (expo Γ Γ.length S) = 1 ∧ bel Γ T (k1 (expo Γ Γ.length S)) = true
      · rw [if_pos c] at e
        injection e with e
        subst e
        obtain ⟨a, b, e2, ha, hb⟩ := hd_is_fun o1 c.1
        rw [e2, chd_fun] at q2
        rw [e2]
        have ea : abn (f + 1) t = abn f (nX t) + abn f (nY t) := by rw [abn, if_neg (by omega), if_neg (by omega), if_neg (by omega), if_neg (by omega), if_pos (Or.inl c7)]
        rw [ea]
        exact chd_up (by omega) _ _ q2.2
      · rw [if_neg c] at e; cases e
    rw [if_neg c7] at e0
    by_cases c8 : nKd t = 8
    · rw [if_pos c8] at e0
      obtain ⟨B, hB, h1⟩ := tbd_in e0
      obtain ⟨x1, x2, x3⟩ := w8 c8
      obtain ⟨y1, y3⟩ := v8 c8
      have q := ih (nY t) (nX t :: Γ) Δ B x3 (he.all x1 x2) y3 (cxi_cons hv y1) hd' hB
      have oB := (io (nY t) (nX t :: Γ) Δ B x3 (he.all x1 x2) hB).1
      obtain ⟨e, l⟩ := szt_in h1
      subst e
      rw [List.length_cons] at q oB
      by_cases c : 16 ≤ hd (nX t)
      · have ea : abn (f + 1) t = 1 + abn f (nY t) := by rw [abn, if_neg (by omega), if_pos c8, if_pos c]
        have ec : chi (zl Γ.length) (nX t) = 1 := by unfold chi; rw [if_pos c, vw_zl]
        rw [chd_all, ea, ec]
        refine ⟨chd_up (by omega) _ _ y1, by omega, ?_⟩
        have q' := chd_shift _ B (zl (Γ.length + 1)) (1 :: zl Γ.length) (Nat.le_refl _) (by rw [zl_len, List.length_cons, zl_len]) (by rw [zl_len]; exact oB) (fun j _ => by
          rw [vw_zl, vw_cons, vw_zl]; split <;> omega) q
        exact chd_up (by omega) _ _ q'
      · have ea : abn (f + 1) t = abn f (nY t) := by rw [abn, if_neg (by omega), if_pos c8, if_neg c]; omega
        have ec : chi (zl Γ.length) (nX t) = 0 := by unfold chi; rw [if_neg c]
        rw [chd_all, ea, ec]
        exact ⟨chd_up (Nat.le_add_right _ _) _ _ y1, Nat.zero_le _, q⟩
    rw [if_neg c8] at e0
    by_cases c9 : nKd t = 9
    · rw [if_pos c9] at e0
      obtain ⟨S, hS, h1⟩ := tbd_in e0
      obtain ⟨e, l⟩ := tyO_in h1
      obtain ⟨x1, x2, x3⟩ := w9 c9
      obtain ⟨s1, s2'⟩ := io _ _ _ _ x1 he hS
      obtain ⟨o1, o2⟩ := expo_ok he.1 he.2.1 Γ.length S s1 s2'
      have q := ih _ _ _ _ x1 he (v9 c9).1 hv hd' hS
      have q2 := chd_expo he.1 (cxi_up (Nat.le_add_right k0 (abn f (nX t))) hv) Γ.length S s1 q
      unfold tyI at e
      by_cases c : hd (expo Γ Γ.length S) = 2 ∧ bel Γ (nY t) (k1 (expo Γ Γ.length S)) = true
      · rw [if_pos c] at e
        injection e with e
        subst e
        obtain ⟨a, b, e2, ha, hb⟩ := hd_is_all o1 c.1
        rw [e2, chd_all] at q2
        rw [e2]
        have ea : abn (f + 1) t = abn f (nX t) := by rw [abn, if_neg (by omega), if_neg (by omega), if_pos (Or.inl c9)]
        rw [ea]
        have q3 := chd_mono _ b (chi (zl Γ.length) a :: zl Γ.length) (0 :: zl Γ.length) (Nat.le_refl _) (by rw [List.length_cons, List.length_cons]) (by rw [List.length_cons, zl_len]; exact hb) (fun j _ => by
          rw [vw_cons, vw_cons]; split
          · exact Nat.zero_le _
          · exact Nat.le_refl _) q2.2.2
        have x2' : ok (zl Γ.length).length (nY t) = true := by rw [zl_len]; exact x2
        have q4 := chd_sbt (p := 0) x2' (by unfold chi; split <;> simp [vw_zl]) (chd_up (Nat.le_add_right k0 (abn f (nX t))) _ _ (v9 c9).2) _ b [] (Nat.le_refl _) (by rw [zl_len]; exact hb) q3
        rw [zl_len] at q4
        exact q4
      · rw [if_neg c] at e; cases e
    rw [if_neg c9] at e0
    by_cases c10 : nKd t = 10
    · rw [if_pos c10] at e0
      obtain ⟨A1, hA1, h1⟩ := tbd_in e0
      obtain ⟨A2, hA2, h1⟩ := tbd_in h1
      obtain ⟨A3, hA3, h1⟩ := tbd_in h1
      obtain ⟨e, l⟩ := szt_in h1
      obtain ⟨m8, x1⟩ := w10 c10
      subst e
      have key : ∀ (g : Nat) (B : Ty), g < 3 → (if bit (nMk t) g = true then tyF f (nP t g) Γ Δ else .inr .nil) = .inr B → chd (k0 + (if bit (nMk t) g = true then abn f (nP t g) else 0)) (zl Γ.length) B := by
        intro g B hg hB
        by_cases c : bit (nMk t) g = true
        · rw [if_pos c] at hB ⊢
          exact ih _ _ _ _ (x1 g hg c) he (v10 c10 g hg c) hv hd' hB
        · rw [if_neg c] at hB
          injection hB with hB
          rw [← hB]; exact (chd_nil _).mpr trivial
      have ea : abn (f + 1) t = (if bit (nMk t) 0 = true then abn f (nP t 0) else 0) + ((if bit (nMk t) 1 = true then abn f (nP t 1) else 0) + (if bit (nMk t) 2 = true then abn f (nP t 2) else 0)) := by rw [abn, if_neg (by omega), if_neg (by omega), if_neg (by omega), if_pos c10]; rfl
      rw [chd_rec, ea]
      exact ⟨chd_up (by omega) _ _ (key 0 A1 (by decide) hA1), chd_up (by omega) _ _ (key 1 A2 (by decide) hA2), chd_up (by omega) _ _ (key 2 A3 (by decide) hA3)⟩
    rw [if_neg c10] at e0
    by_cases c11 : nKd t = 11
    · rw [if_pos c11] at e0
      obtain ⟨S, hS, h1⟩ := tbd_in e0
      obtain ⟨e, l⟩ := tyO_in h1
      obtain ⟨m3, x1⟩ := w11 c11
      obtain ⟨s1, s2'⟩ := io _ _ _ _ x1 he hS
      obtain ⟨o1, o2⟩ := expo_ok he.1 he.2.1 Γ.length S s1 s2'
      have q := ih _ _ _ _ x1 he (v11 c11) hv hd' hS
      have q2 := chd_expo he.1 (cxi_up (Nat.le_add_right k0 (abn f (nX t))) hv) Γ.length S s1 q
      unfold tyD at e
      by_cases c : (8 ≤ hd (expo Γ Γ.length S) ∧ hd (expo Γ Γ.length S) < 16) ∧ bit (hd (expo Γ Γ.length S) - 8) (nMk t) = true
      · rw [if_pos c] at e
        injection e with e
        subst e
        obtain ⟨m, x, y, z, hm', e2⟩ := hd_is_rec o1 c.1.1 c.1.2
        rw [e2, chd_rec] at q2
        rw [e2]
        have ea : abn (f + 1) t = abn f (nX t) := by rw [abn, if_neg (by omega), if_neg (by omega), if_pos (Or.inr c11)]
        rw [ea]
        rcases (show nMk t = 0 ∨ nMk t = 1 ∨ nMk t = 2 by omega) with e | e | e
        · rw [e, (pt_rec hm' x y z).1]; exact q2.1
        · rw [e, (pt_rec hm' x y z).2.1]; exact q2.2.1
        · rw [e, (pt_rec hm' x y z).2.2]; exact q2.2.2
      · rw [if_neg c] at e; cases e
    rw [if_neg c11] at e0
    obtain ⟨S, hS, h1⟩ := tbd_in e0
    obtain ⟨T, hT, h1⟩ := tbd_in h1
    obtain ⟨e, l⟩ := tyO_in h1
    have c12 : nKd t = 12 := by omega
    obtain ⟨x1, x2⟩ := w7 (Or.inr c12)
    obtain ⟨s1, s2'⟩ := io _ _ _ _ x1 he hS
    obtain ⟨t1, t2⟩ := io _ _ _ _ x2 he hT
    have q1 := ih _ _ _ _ x1 he (v7 (Or.inr c12)).1 hv hd' hS
    have q2 := ih _ _ _ _ x2 he (v7 (Or.inr c12)).2 hv hd' hT
    have ea : abn (f + 1) t = abn f (nX t) + abn f (nY t) := by rw [abn, if_neg (by omega), if_neg (by omega), if_neg (by omega), if_neg (by omega), if_pos (Or.inr c12)]
    rw [ea]
    exact cu_ci _ 0 Γ (zl Γ.length) S T A (cxi_up (by omega) hv) ⟨he.1, s1, t1⟩ (chd_up (by omega) _ _ q1) (chd_up (by omega) _ _ q2) e
