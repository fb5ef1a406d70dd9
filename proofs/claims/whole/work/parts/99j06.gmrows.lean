/-! ROWS OF A JOIN ARE AT MOST WHAT EITHER SIDE HAS. -/
theorem ozq {b : Bool} {e : Nat} (e1 : 1 ≤ e) : ∀ {Γ : List Ty}, okc Γ → ∀ k, k < (oz b e Γ).length → (if b then vw (oq (qu e) Γ) k ≤ vw (oz b e Γ) k ∧ e ≤ vw (oz b e Γ) k else vw (oq (qu e) Γ) k + e ≤ vw (oz b e Γ) k)
  | [], _, _, h => absurd h (Nat.not_lt_zero _)
  | s :: Γ, hc, k, hk => by
    have hl : (oz b e Γ).length = (oq (qu e) Γ).length := by rw [oz_len, oq_len]
    have hs : ok (oz b e Γ).length s = true := by rw [oz_len]; exact hc.1
    have ih := ozq (b := b) e1 hc.2
    obtain ⟨i1, i2⟩ := qu_mrz (b := b) e1 s true (oz b e Γ) (oq (qu e) Γ) hl hs ih
    show (if b then (if k = (oq (qu e) Γ).length then 1 + pmz (qu e) true (oq (qu e) Γ) s else vw (oq (qu e) Γ) k) ≤ (if k = (oz b e Γ).length then vlr b e (mrz b e true (oz b e Γ) (oq (qu e) Γ) s) else vw (oz b e Γ) k) ∧ e ≤ (if k = (oz b e Γ).length then vlr b e (mrz b e true (oz b e Γ) (oq (qu e) Γ) s) else vw (oz b e Γ) k) else (if k = (oq (qu e) Γ).length then 1 + pmz (qu e) true (oq (qu e) Γ) s else vw (oq (qu e) Γ) k) + e ≤ (if k = (oz b e Γ).length then vlr b e (mrz b e true (oz b e Γ) (oq (qu e) Γ) s) else vw (oz b e Γ) k))
    rw [hl]
    by_cases hk2 : k = (oq (qu e) Γ).length
    · rw [if_pos hk2, if_pos hk2]
      cases b with
      | true =>
        show 1 + pmz (qu e) true (oq (qu e) Γ) s ≤ max e (1 + mrz true e true (oz true e Γ) (oq (qu e) Γ) s) ∧ e ≤ max e (1 + mrz true e true (oz true e Γ) (oq (qu e) Γ) s)
        omega
      | false =>
        show 1 + pmz (qu e) true (oq (qu e) Γ) s + e ≤ 1 + max e (mrz false e true (oz false e Γ) (oq (qu e) Γ) s)
        rcases ok_cases hs with rfl | ⟨j, hj, rfl⟩ | ⟨a', b', rfl, -, -⟩ | ⟨a', b', rfl, -, -⟩ | ⟨m, x, y, z, hm, rfl, -, -, -⟩
        · rw [pmz_top]
          show 1 + 0 + e ≤ _
          omega
        · have := ih j hj
          rw [pmz_vt, mrz_vt]
          have this : vw (oq (qu e) Γ) j + e ≤ vw (oz false e Γ) j := this
          omega
        · have := (i2 (by rw [hd_fun]; omega) (by rw [hd_fun]; omega)).1
          omega
        · have := (i2 (by rw [hd_all]; omega) (by rw [hd_all]; omega)).1
          omega
        · have := (i2 (by rw [hd_rec]; omega) (by rw [hd_rec]; omega)).1
          omega
    · rw [if_neg hk2, if_neg hk2]
      exact ih k (by rw [oz_len] at hk; simp only [List.length_cons] at hk; rw [oq_len] at hk2; rw [oz_len]; omega)
theorem qu_rows {b : Bool} {e : Nat} (e1 : 1 ≤ e) {Γ : List Ty} {t : Ty} (d : Bool) (hc : okc Γ) (h : ok Γ.length t = true) : (pmz (qu e) true (oq (qu e) Γ) t ≤ mrz b e d (oz b e Γ) (oq (qu e) Γ) t ∧ pmz (qu e) false (oq (qu e) Γ) t ≤ mrz b e d (oz b e Γ) (oq (qu e) Γ) t) ∧ (hd t ≠ 0 → hd t < 16 → pmz (qu e) true (oq (qu e) Γ) t + 1 + e ≤ mrz b e d (oz b e Γ) (oq (qu e) Γ) t ∧ pmz (qu e) false (oq (qu e) Γ) t + 1 ≤ mrz b e d (oz b e Γ) (oq (qu e) Γ) t) :=
  qu_mrz e1 t d (oz b e Γ) (oq (qu e) Γ) (by rw [oz_len, oq_len]) (by rw [oz_len]; exact h) (ozq e1 hc)
/-- what comes of a goal is in order likewise -/
theorem TB.gcs {e w : Nat} {Γ : List Ty} {S T : Ty} (h : TB e (Γ, S, T)) (w2 : w ≠ 2) (w3 : w ≤ 2) : ∀ y ∈ gcs (w, Γ, S, T), TB e y.2 ∧ y.1 ≤ 2 := by
  obtain ⟨tk, hb, bS, bT⟩ := h
  have hb : cbc e Γ := hb
  have bS : cbd e (cl Γ) S := bS
  have bT : cbd e (cl Γ) T := bT
  have hc : okc Γ := tk.1
  have hS : ok Γ.length S = true := tk.2.1
  have hT : ok Γ.length T = true := tk.2.2
  intro y hy
  rcases gcs_cases (w := w) tk w2 with ⟨e1, -⟩ | ⟨-, k, hk, rfl, e1, -⟩ | ⟨-, -, k, hk, rfl, e1, -⟩ | ⟨m, X0, X1, X2, m', Y0, Y1, Y2, hm, hm', rfl, rfl, e1, -⟩ | ⟨A, C, A', C', rfl, rfl, e1, -⟩ | ⟨A, C, C', rfl, rfl, e1, -⟩
  · rw [e1] at hy; cases hy
  · rw [e1] at hy; rw [List.mem_singleton.mp hy]
    exact ⟨⟨⟨hc, ok_expose hc hk, hT⟩, hb, (cl_expose hc hb hk).2.1, bT⟩, w3⟩
  · rw [e1] at hy; rw [List.mem_singleton.mp hy]
    exact ⟨⟨⟨hc, hS, ok_expose hc hk⟩, hb, bS, (cl_expose hc hb hk).2.1⟩, w3⟩
  · have oS := (ok_rec hm).mp hS
    have oT := (ok_rec hm').mp hT
    have dS := (cbd_rec _ _ _ _).mp bS
    have dT := (cbd_rec _ _ _ _).mp bT
    have key : ∀ i (p q : Ty), i < 3 → okl Γ.length m i p → okl Γ.length m' i q → cbd e (cl Γ) p → cbd e (cl Γ) q → y ∈ gzl w Γ (lset w m m') m m' i p q → TB e y.2 ∧ y.1 ≤ 2 := by
      intro i p q hi hp hq bp bq hy
      rcases gzl_cases (W := w) (Γ := Γ) (X := p) (Y := q) (lset_in w m hm m' hm' i hi) with ⟨h1, h2, h3, e2⟩ | ⟨h1, h2, h3, e2⟩ | ⟨h1, h2, h3, e2⟩ | ⟨h1, e2⟩
      · rw [e2] at hy; rw [List.mem_singleton.mp hy]
        exact ⟨⟨⟨hc, okl_on hp (bit_iff.mp h2), okl_on hq (bit_iff.mp h3)⟩, hb, bp, bq⟩, w3⟩
      · rw [e2] at hy; rw [List.mem_singleton.mp hy]
        exact ⟨⟨⟨hc, okl_on hp (bit_iff.mp h2), okl_on hp (bit_iff.mp h2)⟩, hb, bp, bp⟩, Nat.le_refl _⟩
      · rw [e2] at hy; rw [List.mem_singleton.mp hy]
        exact ⟨⟨⟨hc, okl_on hq (bit_iff.mp h3), okl_on hq (bit_iff.mp h3)⟩, hb, bq, bq⟩, Nat.le_refl _⟩
      · rw [e2] at hy; cases hy
    rw [e1] at hy
    rcases List.mem_append.mp hy with hy | hy
    · exact key 0 _ _ (by decide) oS.1 oT.1 dS.1 dT.1 hy
    · rcases List.mem_append.mp hy with hy | hy
      · exact key 1 _ _ (by decide) oS.2.1 oT.2.1 dS.2.1 dT.2.1 hy
      · exact key 2 _ _ (by decide) oS.2.2 oT.2.2 dS.2.2 dT.2.2 hy
  · have oS := ok_fun.mp hS
    have oT := ok_fun.mp hT
    have dS := (cbd_fun _ _ _).mp bS
    have dT := (cbd_fun _ _ _).mp bT
    rw [e1] at hy
    rcases List.mem_cons.mp hy with rfl | hy
    · exact ⟨⟨⟨hc, oS.1, oT.1⟩, hb, dS.1, dT.1⟩, show 1 - w ≤ 2 by omega⟩
    · rw [List.mem_singleton.mp hy]
      exact ⟨⟨⟨hc, oS.2, oT.2⟩, hb, dS.2, dT.2⟩, w3⟩
  · have oS := ok_all.mp hS
    have oT := ok_all.mp hT
    have dS := (cbd_all _ _ _).mp bS
    have dT := (cbd_all _ _ _).mp bT
    rw [e1] at hy; rw [List.mem_singleton.mp hy]
    exact ⟨⟨⟨⟨oS.1, hc⟩, oS.2, oT.2⟩, ⟨⟨dS.1, dS.2.1⟩, hb⟩, dS.2.2, dT.2.2⟩, w3⟩
theorem chn_var (χ : List Nat) (k : Nat) : chn χ (tVar k) = vw χ k := by
  unfold chn
  rw [hd_var, if_pos (by omega), show 16 + k - 16 = k by omega]
theorem chn_no {χ : List Nat} {t : Ty} (h : ¬ 16 ≤ hd t) : chn χ t = 0 := by unfold chn; rw [if_neg h]
theorem gro_bel {w : Nat} {Γ : List Ty} {S T : Ty} (h : bel Γ S T = true ∨ bel Γ T S = true) : gro (w, Γ, S, T) = 0 := by
  unfold gro
  by_cases b : bel Γ S T = true
  · rw [if_pos b]
  · rw [if_neg b, if_pos (h.resolve_left b)]
/-- for the left side -/
def urm (b : Bool) (e w : Nat) (Γ : List Ty) (t : Ty) : Nat := mrz b e (decide (w = 0)) (oz b e Γ) (oq (qu e) Γ) t
def urS (e : Nat) (z : Gz) : Nat := if hd z.2.2.1 = 0 ∨ 16 ≤ hd z.2.2.1 then urm true e z.1 z.2.1 z.2.2.1 else urm true e z.1 z.2.1 z.2.2.1 - e + chn (cl z.2.1) z.2.2.2
def urT (e : Nat) (z : Gz) : Nat := if hd z.2.2.2 = 0 then 0 else urm false e z.1 z.2.1 z.2.2.2 - e + chn (cl z.2.1) z.2.2.1
section PmJ6
variable {e w : Nat} {Γ : List Ty} {S T : Ty}
theorem urS_le (e1 : 1 ≤ e) (h : TB e (Γ, S, T)) : urS e (w, Γ, S, T) ≤ urm true e w Γ S := by
  have hc : okc Γ := h.1.1
  have hS : ok Γ.length S = true := h.1.2.1
  unfold urS
  show (if hd S = 0 ∨ 16 ≤ hd S then urm true e w Γ S else urm true e w Γ S - e + chn (cl Γ) T) ≤ urm true e w Γ S
  split
  · exact Nat.le_refl _
  · rename_i hn
    have a1 : chn (cl Γ) T ≤ e := chn_le hc h.2.1 h.1.2.2
    have a2 := ((qu_rows (b := true) e1 (decide (w = 0)) hc hS).2 (fun e0 => hn (Or.inl e0)) (by omega)).1
    have a2 : pmz (qu e) true (oq (qu e) Γ) S + 1 + e ≤ urm true e w Γ S := a2
    omega
theorem qu_one {k : Nat} (hc : okc Γ) (hk : k < Γ.length) : 1 ≤ vw (oq (qu e) Γ) k := by
  have := pmz_expose (qu e) hc hk
  have q3 : qu e true 3 = 1 := rfl
  omega
theorem urm_big (e1 : 1 ≤ e) (hc : okc Γ) (hT : ok Γ.length T = true) (h0 : hd T ≠ 0) : pmz (qu e) true (oq (qu e) Γ) T + e ≤ urm false e w Γ T ∧ 1 + e ≤ urm false e w Γ T := by
  have q := qu_rows (b := false) e1 (decide (w = 0)) hc hT
  rcases ok_cases hT with rfl | ⟨k, hk, rfl⟩ | ⟨a', b', rfl, -, -⟩ | ⟨a', b', rfl, -, -⟩ | ⟨m, x, y, z, hm, rfl, -, -, -⟩
  · exact absurd rfl h0
  · have v := ozq (b := false) e1 hc k (by rw [oz_len]; exact hk)
    have v : vw (oq (qu e) Γ) k + e ≤ vw (oz false e Γ) k := v
    have v1 := qu_one (e := e) hc hk
    unfold urm
    rw [pmz_vt, mrz_var]
    by_cases w0 : w = 0
    · rw [show decide (w = 0) = true by simp [w0]]
      show _ ≤ vw (oz false e Γ) k ∧ _ ≤ vw (oz false e Γ) k
      omega
    · rw [show decide (w = 0) = false by simp [w0]]
      show _ ≤ e + vw (oq (qu e) Γ) k ∧ _ ≤ e + vw (oq (qu e) Γ) k
      omega
  · have := (q.2 (by rw [hd_fun]; omega) (by rw [hd_fun]; omega)).1
    show _ ≤ mrz false e (decide (w = 0)) (oz false e Γ) (oq (qu e) Γ) _ ∧ _ ≤ mrz false e (decide (w = 0)) (oz false e Γ) (oq (qu e) Γ) _
    omega
  · have := (q.2 (by rw [hd_all]; omega) (by rw [hd_all]; omega)).1
    show _ ≤ mrz false e (decide (w = 0)) (oz false e Γ) (oq (qu e) Γ) _ ∧ _ ≤ mrz false e (decide (w = 0)) (oz false e Γ) (oq (qu e) Γ) _
    omega
  · have := (q.2 (by rw [hd_rec]; omega) (by rw [hd_rec]; omega)).1
    show _ ≤ mrz false e (decide (w = 0)) (oz false e Γ) (oq (qu e) Γ) _ ∧ _ ≤ mrz false e (decide (w = 0)) (oz false e Γ) (oq (qu e) Γ) _
    omega
theorem urT_le (e1 : 1 ≤ e) (h : TB e (Γ, S, T)) : urT e (w, Γ, S, T) ≤ urm false e w Γ T := by
  have hc : okc Γ := h.1.1
  have hT : ok Γ.length T = true := h.1.2.2
  unfold urT
  show (if hd T = 0 then 0 else urm false e w Γ T - e + chn (cl Γ) S) ≤ urm false e w Γ T
  split
  · exact Nat.zero_le _
  · rename_i hn
    have a1 : chn (cl Γ) S ≤ e := chn_le hc h.2.1 h.1.2.1
    have a2 := (urm_big (w := w) e1 hc hT hn).2
    omega
end PmJ6
theorem gzl_r {w : Nat} {f : Gz → Nat} {g : Ty → Nat} {Γ : List Ty} {m m' i : Nat} {X Y : Ty} (hm : m < 8) (hm' : m' < 8) (hi : i < 3) (w2 : w ≠ 2) (hf : bit m i = true → bit m' i = true → f (w, Γ, X, Y) ≤ g X) : sgl (fun y => if y.1 = 2 then 0 else f y) (gzl w Γ (lset w m m') m m' i X Y) ≤ g X := by
  rcases gzl_cases (W := w) (Γ := Γ) (X := X) (Y := Y) (lset_in w m hm m' hm' i hi) with ⟨h1, h2, h3, e⟩ | ⟨h1, h2, h3, e⟩ | ⟨h1, h2, h3, e⟩ | ⟨h1, e⟩
  · rw [e]
    show (if w = 2 then 0 else f (w, Γ, X, Y)) + 0 ≤ _
    rw [if_neg w2]
    exact hf h2 h3
  · rw [e]; exact Nat.zero_le _
  · rw [e]; exact Nat.zero_le _
  · rw [e]; exact Nat.zero_le _
theorem gm_rowsS {e : Nat} (e1 : 1 ≤ e) {z : Gz} (h : TB e z.2) (w1 : z.1 ≤ 1) : gm z ≤ urm true e z.1 z.2.1 z.2.2.1 := by
  refine Nat.le_trans (gm_least (μ := urS e) (fun z => TB e z.2 ∧ z.1 ≤ 2) (fun z hz w2 => ?_) (twt z.2) z ⟨h, by omega⟩ (by omega)) (urS_le e1 h)
  clear h w1
  obtain ⟨w, Γ, S, T⟩ := z
  obtain ⟨tb, w3⟩ := hz
  have tb : TB e (Γ, S, T) := tb
  have w2 : w ≠ 2 := w2
  have w3 : w ≤ 2 := w3
  have tk : tok (Γ, S, T) := tb.1
  have hb : cbc e Γ := tb.2.1
  have hc : okc Γ := tk.1
  have hS : ok Γ.length S = true := tk.2.1
  have hT : ok Γ.length T = true := tk.2.2
  have tbs : TB e (Γ, T, S) := ⟨⟨hc, hT, hS⟩, hb, tb.2.2.2, tb.2.2.1⟩
  have kids := tb.gcs w2 w3
  have q := qu_rows (b := true) e1 (decide (w = 0)) hc hS
  have lowT : chn (cl Γ) T ≤ e := chn_le hc hb hT
  have mu0 : hd S = 0 → urS e (w, Γ, S, T) = urm true e w Γ S := fun h0 => if_pos (Or.inl h0)
  have muv : 16 ≤ hd S → urS e (w, Γ, S, T) = urm true e w Γ S := fun h0 => if_pos (Or.inr h0)
  have mus : hd S ≠ 0 → hd S < 16 → urS e (w, Γ, S, T) = urm true e w Γ S - e + chn (cl Γ) T := fun h0 h1 => if_neg (fun hh => hh.elim h0 (fun h2 => by simp only at h2; omega))
  refine ⟨tk, kids, ?_, ?_⟩
  · refine Nat.max_le.mpr ⟨?_, ?_⟩
    · show trx (Γ, S, T) ≤ urS e (w, Γ, S, T)
      have a1 := trx_S tb
      by_cases h0 : hd S = 0
      · rw [mu0 h0]; exact Nat.le_trans a1 q.1.1
      by_cases h1 : 16 ≤ hd S
      · rw [muv h1]; exact Nat.le_trans a1 q.1.1
      · rw [mus h0 (by omega)]
        have := (q.2 h0 (by omega)).1
        have this : pmz (qu e) true (oq (qu e) Γ) S + 1 + e ≤ urm true e w Γ S := this
        omega
    · show trx (Γ, T, S) ≤ urS e (w, Γ, S, T)
      have a1 := trx_T tbs
      by_cases h0 : hd S = 0
      · rw [mu0 h0]; exact Nat.le_trans a1 q.1.2
      by_cases h1 : 16 ≤ hd S
      · rw [muv h1]; exact Nat.le_trans a1 q.1.2
      · rw [mus h0 (by omega)]
        have a2 := (trf_two (twt (Γ, T, S)) Γ T S tbs).2 h0
        have a2 : trx (Γ, T, S) + e ≤ chn (cl Γ) T + pmz (qu e) false (oq (qu e) Γ) S := a2
        have := (q.2 h0 (by omega)).2
        have this : pmz (qu e) false (oq (qu e) Γ) S + 1 ≤ urm true e w Γ S := this
        have a3 := qu_neg (e := e) (ω := oq (qu e) Γ) hS h0
        omega
  · have stop : hd S = 0 → gcs (w, Γ, S, T) = [] ∧ gro (w, Γ, S, T) = 0 := fun h0 =>
      ⟨gcs_of_bel (Or.inr (bel_top tbs.1 h0)), gro_bel (Or.inr (bel_top tbs.1 h0))⟩
    by_cases h0 : hd S = 0
    · rw [(stop h0).1, (stop h0).2]
      exact Nat.zero_le _
    rcases gcs_cases (w := w) tk w2 with ⟨g1, g2, -⟩ | ⟨w1, k, hk, rfl, g1, g2, -⟩ | ⟨w1, n1, k, hk, rfl, g1, g2, -⟩ | ⟨m, X0, X1, X2, m', Y0, Y1, Y2, hm, hm', rfl, rfl, g1, g2, -⟩ | ⟨A, C, A', C', rfl, rfl, g1, g2, -⟩ | ⟨A, C, C', rfl, rfl, g1, g2, -⟩
    · rw [g1]
      show gro (w, Γ, S, T) + 0 ≤ urS e (w, Γ, S, T)
      have a3 := qu_neg (e := e) (ω := oq (qu e) Γ) hS h0
      by_cases h1 : 16 ≤ hd S
      · rw [muv h1]
        have := q.1.2
        have this : pmz (qu e) false (oq (qu e) Γ) S ≤ urm true e w Γ S := this
        omega
      · rw [mus h0 (by omega)]
        have := (q.2 h0 (by omega)).2
        have this : pmz (qu e) false (oq (qu e) Γ) S + 1 ≤ urm true e w Γ S := this
        omega
    · have w0 : w = 0 := by omega
      subst w0
      rw [muv (by rw [hd_var]; omega), g1, g2]
      show 1 + ((if (0 : Nat) = 2 then 0 else urS e (0, Γ, lft k (Γ.length - k) (bnd Γ k), T)) + 0) ≤ urm true e 0 Γ (tVar k)
      rw [if_neg (by decide)]
      have tb' : TB e (Γ, lft k (Γ.length - k) (bnd Γ k), T) := by
        have := (kids (0, Γ, lft k (Γ.length - k) (bnd Γ k), T) (by rw [g1]; exact List.mem_singleton.mpr rfl)).1
        exact this
      have a1 := urS_le (w := 0) e1 tb'
      have a2 : urm true e 0 Γ (tVar k) = max e (1 + urm true e 0 Γ (lft k (Γ.length - k) (bnd Γ k))) := (mrz_vt _ _ _).trans (oz_expose true e hc hk)
      omega
    · have w0 : w = 0 := by omega
      subst w0
      have hs16 : hd S < 16 := by omega
      rw [mus h0 hs16, g1, g2]
      show 1 + ((if (0 : Nat) = 2 then 0 else urS e (0, Γ, S, lft k (Γ.length - k) (bnd Γ k))) + 0) ≤ urm true e 0 Γ S - e + chn (cl Γ) (tVar k)
      rw [if_neg (by decide)]
      have a1 : urS e (0, Γ, S, lft k (Γ.length - k) (bnd Γ k)) = urm true e 0 Γ S - e + chn (cl Γ) (lft k (Γ.length - k) (bnd Γ k)) := if_neg (fun hh => hh.elim h0 (fun h2 => by simp only at h2; omega))
      have a2 := (cl_expose hc hb hk).1
      rw [a1, chn_var]
      omega
    · have oS := (ok_rec hm).mp hS
      have oT := (ok_rec hm').mp hT
      have dS := (cbd_rec _ _ _ _).mp tb.2.2.1
      have dT := (cbd_rec _ _ _ _).mp tb.2.2.2
      rw [mus h0 (by rw [hd_rec]; omega), g1, g2, sgl_app, sgl_app, chn_no (by rw [hd_rec]; omega)]
      have k0 := gzl_r (w := w) (f := urS e) (g := urm true e w Γ) (Γ := Γ) (X := X0) (Y := Y0) hm hm' (show 0 < 3 by decide) w2 (fun b1 b2 => urS_le e1 ⟨⟨hc, okl_on oS.1 (bit_iff.mp b1), okl_on oT.1 (bit_iff.mp b2)⟩, hb, dS.1, dT.1⟩)
      have k1 := gzl_r (w := w) (f := urS e) (g := urm true e w Γ) (Γ := Γ) (X := X1) (Y := Y1) hm hm' (show 1 < 3 by decide) w2 (fun b1 b2 => urS_le e1 ⟨⟨hc, okl_on oS.2.1 (bit_iff.mp b1), okl_on oT.2.1 (bit_iff.mp b2)⟩, hb, dS.2.1, dT.2.1⟩)
      have k2 := gzl_r (w := w) (f := urS e) (g := urm true e w Γ) (Γ := Γ) (X := X2) (Y := Y2) hm hm' (show 2 < 3 by decide) w2 (fun b1 b2 => urS_le e1 ⟨⟨hc, okl_on oS.2.2 (bit_iff.mp b1), okl_on oT.2.2 (bit_iff.mp b2)⟩, hb, dS.2.2, dT.2.2⟩)
      have p3 : urm true e w Γ (tRec m X0 X1 X2) = (1 + e) + (urm true e w Γ X0 + (urm true e w Γ X1 + urm true e w Γ X2)) := mrz_rec _ _ _ _ _
      rw [p3]
      omega
    · have oS := ok_fun.mp hS
      have oT := ok_fun.mp hT
      have dS := (cbd_fun _ _ _).mp tb.2.2.1
      have dT := (cbd_fun _ _ _).mp tb.2.2.2
      rw [mus h0 (by rw [hd_fun]; omega), g1, g2, chn_no (by rw [hd_fun]; omega)]
      show 1 + ((if 1 - w = 2 then 0 else urS e (1 - w, Γ, A, A')) + ((if w = 2 then 0 else urS e (w, Γ, C, C')) + 0)) ≤ _
      rw [if_neg (by omega), if_neg w2]
      have a1 := urS_le (w := 1 - w) (e := e) (Γ := Γ) (S := A) (T := A') e1 ⟨⟨hc, oS.1, oT.1⟩, hb, dS.1, dT.1⟩
      have a2 := urS_le (w := w) (e := e) (Γ := Γ) (S := C) (T := C') e1 ⟨⟨hc, oS.2, oT.2⟩, hb, dS.2, dT.2⟩
      have ed : (decide (1 - w = 0)) = !(decide (w = 0)) := by
        rcases (show w = 0 ∨ w = 1 by omega) with rfl | rfl <;> rfl
      have p3 : urm true e w Γ (tFun A C) = (1 + e) + (urm true e (1 - w) Γ A + urm true e w Γ C) := by
        unfold urm
        rw [mrz_fun, ed]
      rw [p3]
      omega
    · have oS := ok_all.mp hS
      have oT := ok_all.mp hT
      have dS := (cbd_all _ _ _).mp tb.2.2.1
      have dT := (cbd_all _ _ _).mp tb.2.2.2
      rw [mus h0 (by rw [hd_all]; omega), g1, g2, chn_no (by rw [hd_all]; omega)]
      show 2 + ((if w = 2 then 0 else urS e (w, A :: Γ, C, C')) + 0) ≤ _
      rw [if_neg w2]
      have a2 := urS_le (w := w) (e := e) (Γ := A :: Γ) (S := C) (T := C') e1 ⟨⟨⟨oS.1, hc⟩, oS.2, oT.2⟩, ⟨⟨dS.1, dS.2.1⟩, hb⟩, dS.2.2, dT.2.2⟩
      have p3 : urm true e w Γ (tAll A C) = (2 + e) + urm true e w (A :: Γ) C := mrz_all _ _ _ _
      rw [p3]
      omega
theorem gm_rowsT {e : Nat} (e1 : 1 ≤ e) {z : Gz} (h : TB e z.2) (w1 : z.1 ≤ 1) : gm z ≤ urm false e z.1 z.2.1 z.2.2.2 := by
  refine Nat.le_trans (gm_least (μ := urT e) (fun z => TB e z.2 ∧ z.1 ≤ 2) (fun z hz w2 => ?_) (twt z.2) z ⟨h, by omega⟩ (by omega)) (urT_le e1 h)
  clear h w1
  obtain ⟨w, Γ, S, T⟩ := z
  obtain ⟨tb, w3⟩ := hz
  have tb : TB e (Γ, S, T) := tb
  have w2 : w ≠ 2 := w2
  have w3 : w ≤ 2 := w3
  have tk : tok (Γ, S, T) := tb.1
  have hb : cbc e Γ := tb.2.1
  have hc : okc Γ := tk.1
  have hS : ok Γ.length S = true := tk.2.1
  have hT : ok Γ.length T = true := tk.2.2
  have tbs : TB e (Γ, T, S) := ⟨⟨hc, hT, hS⟩, hb, tb.2.2.2, tb.2.2.1⟩
  have kids := tb.gcs w2 w3
  have q := qu_rows (b := false) e1 (decide (w = 0)) hc hT
  have lowS : chn (cl Γ) S ≤ e := chn_le hc hb hS
  have stop : hd T = 0 → gcs (w, Γ, S, T) = [] ∧ gro (w, Γ, S, T) = 0 := fun h0 =>
    ⟨gcs_of_bel (Or.inl (bel_top tk h0)), gro_bel (Or.inl (bel_top tk h0))⟩
  have mus : hd T ≠ 0 → urT e (w, Γ, S, T) = urm false e w Γ T - e + chn (cl Γ) S := fun h0 => if_neg h0
  refine ⟨tk, kids, ?_, ?_⟩
  · refine Nat.max_le.mpr ⟨?_, ?_⟩
    · show trx (Γ, S, T) ≤ urT e (w, Γ, S, T)
      by_cases h0 : hd T = 0
      · exact Nat.le_trans (Nat.le_of_eq (trf_top _ h0)) (Nat.zero_le _)
      · rw [mus h0]
        have a2 := (trf_two (twt (Γ, S, T)) Γ S T tb).2 h0
        have a2 : trx (Γ, S, T) + e ≤ chn (cl Γ) S + pmz (qu e) false (oq (qu e) Γ) T := a2
        have a3 := q.1.2
        have a3 : pmz (qu e) false (oq (qu e) Γ) T ≤ urm false e w Γ T := a3
        have a4 := (urm_big (w := w) e1 hc hT h0).2
        omega
    · show trx (Γ, T, S) ≤ urT e (w, Γ, S, T)
      by_cases h0 : hd T = 0
      · have a1 := trx_S tbs
        have e2 : T = tTop := by
          rcases ok_cases hT with h | ⟨k, hk, rfl⟩ | ⟨a', b', rfl, -, -⟩ | ⟨a', b', rfl, -, -⟩ | ⟨m, x, y, z, hm, rfl, -, -, -⟩
          · exact h
          · rw [hd_var] at h0; omega
          · rw [hd_fun] at h0; omega
          · rw [hd_all] at h0; omega
          · rw [hd_rec] at h0; omega
        subst e2
        rw [pmz_top] at a1
        have a1 : trx (Γ, tTop, S) ≤ 0 := a1
        omega
      · rw [mus h0]
        have a1 := trx_S tbs
        have a4 := (urm_big (w := w) e1 hc hT h0).1
        omega
  · by_cases h0 : hd T = 0
    · rw [(stop h0).1, (stop h0).2]
      exact Nat.zero_le _
    have big := (urm_big (w := w) e1 hc hT h0).2
    rw [mus h0]
    rcases gcs_cases (w := w) tk w2 with ⟨g1, g2, -⟩ | ⟨w1, k, hk, rfl, g1, g2, -⟩ | ⟨w1, n1, k, hk, rfl, g1, g2, -⟩ | ⟨m, X0, X1, X2, m', Y0, Y1, Y2, hm, hm', rfl, rfl, g1, g2, -⟩ | ⟨A, C, A', C', rfl, rfl, g1, g2, -⟩ | ⟨A, C, C', rfl, rfl, g1, g2, -⟩
    · rw [g1]
      show gro (w, Γ, S, T) + 0 ≤ _
      omega
    · have w0 : w = 0 := by omega
      subst w0
      rw [g1, g2]
      show 1 + ((if (0 : Nat) = 2 then 0 else urT e (0, Γ, lft k (Γ.length - k) (bnd Γ k), T)) + 0) ≤ _
      rw [if_neg (by decide)]
      have a1 : urT e (0, Γ, lft k (Γ.length - k) (bnd Γ k), T) = urm false e 0 Γ T - e + chn (cl Γ) (lft k (Γ.length - k) (bnd Γ k)) := if_neg h0
      have a2 := (cl_expose hc hb hk).1
      rw [a1, chn_var]
      omega
    · have w0 : w = 0 := by omega
      subst w0
      rw [g1, g2, chn_no n1]
      show 1 + ((if (0 : Nat) = 2 then 0 else urT e (0, Γ, S, lft k (Γ.length - k) (bnd Γ k))) + 0) ≤ _
      rw [if_neg (by decide)]
      have a2 : urm false e 0 Γ (tVar k) = 1 + max e (urm false e 0 Γ (lft k (Γ.length - k) (bnd Γ k))) := (mrz_vt _ _ _).trans (oz_expose false e hc hk)
      have a1 : urT e (0, Γ, S, lft k (Γ.length - k) (bnd Γ k)) ≤ urm false e 0 Γ (lft k (Γ.length - k) (bnd Γ k)) - e := by
        unfold urT
        show (if hd (lft k (Γ.length - k) (bnd Γ k)) = 0 then 0 else urm false e 0 Γ (lft k (Γ.length - k) (bnd Γ k)) - e + chn (cl Γ) S) ≤ _
        split
        · exact Nat.zero_le _
        · rw [chn_no n1]; exact Nat.le_refl _
      omega
    · have oS := (ok_rec hm).mp hS
      have oT := (ok_rec hm').mp hT
      have dS := (cbd_rec _ _ _ _).mp tb.2.2.1
      have dT := (cbd_rec _ _ _ _).mp tb.2.2.2
      rw [g1, g2, sgl_app, sgl_app, chn_no (by rw [hd_rec]; omega)]
      have k0 := gzl_r (w := w) (f := urT e) (g := fun _ => urm false e w Γ Y0) (Γ := Γ) (X := X0) (Y := Y0) hm hm' (show 0 < 3 by decide) w2 (fun b1 b2 => urT_le e1 ⟨⟨hc, okl_on oS.1 (bit_iff.mp b1), okl_on oT.1 (bit_iff.mp b2)⟩, hb, dS.1, dT.1⟩)
      have k1 := gzl_r (w := w) (f := urT e) (g := fun _ => urm false e w Γ Y1) (Γ := Γ) (X := X1) (Y := Y1) hm hm' (show 1 < 3 by decide) w2 (fun b1 b2 => urT_le e1 ⟨⟨hc, okl_on oS.2.1 (bit_iff.mp b1), okl_on oT.2.1 (bit_iff.mp b2)⟩, hb, dS.2.1, dT.2.1⟩)
      have k2 := gzl_r (w := w) (f := urT e) (g := fun _ => urm false e w Γ Y2) (Γ := Γ) (X := X2) (Y := Y2) hm hm' (show 2 < 3 by decide) w2 (fun b1 b2 => urT_le e1 ⟨⟨hc, okl_on oS.2.2 (bit_iff.mp b1), okl_on oT.2.2 (bit_iff.mp b2)⟩, hb, dS.2.2, dT.2.2⟩)
      have p3 : urm false e w Γ (tRec m' Y0 Y1 Y2) = (1 + e) + (urm false e w Γ Y0 + (urm false e w Γ Y1 + urm false e w Γ Y2)) := mrz_rec _ _ _ _ _
      rw [p3]
      omega
    · have oS := ok_fun.mp hS
      have oT := ok_fun.mp hT
      have dS := (cbd_fun _ _ _).mp tb.2.2.1
      have dT := (cbd_fun _ _ _).mp tb.2.2.2
      rw [g1, g2, chn_no (by rw [hd_fun]; omega)]
      show 1 + ((if 1 - w = 2 then 0 else urT e (1 - w, Γ, A, A')) + ((if w = 2 then 0 else urT e (w, Γ, C, C')) + 0)) ≤ _
      rw [if_neg (by omega), if_neg w2]
      have a1 := urT_le (w := 1 - w) (e := e) (Γ := Γ) (S := A) (T := A') e1 ⟨⟨hc, oS.1, oT.1⟩, hb, dS.1, dT.1⟩
      have a2 := urT_le (w := w) (e := e) (Γ := Γ) (S := C) (T := C') e1 ⟨⟨hc, oS.2, oT.2⟩, hb, dS.2, dT.2⟩
      have ed : (decide (1 - w = 0)) = !(decide (w = 0)) := by
        rcases (show w = 0 ∨ w = 1 by omega) with rfl | rfl <;> rfl
      have p3 : urm false e w Γ (tFun A' C') = (1 + e) + (urm false e (1 - w) Γ A' + urm false e w Γ C') := by
        unfold urm
        rw [mrz_fun, ed]
      rw [p3]
      omega
    · have oS := ok_all.mp hS
      have oT := ok_all.mp hT
      have dS := (cbd_all _ _ _).mp tb.2.2.1
      have dT := (cbd_all _ _ _).mp tb.2.2.2
      rw [g1, g2, chn_no (by rw [hd_all]; omega)]
      show 2 + ((if w = 2 then 0 else urT e (w, A :: Γ, C, C')) + 0) ≤ _
      rw [if_neg w2]
      have a2 := urT_le (w := w) (e := e) (Γ := A :: Γ) (S := C) (T := C') e1 ⟨⟨⟨oS.1, hc⟩, oS.2, oT.2⟩, ⟨⟨dS.1, dS.2.1⟩, hb⟩, dS.2.2, dT.2.2⟩
      have p3 : urm false e w Γ (tAll A C') = (2 + e) + urm false e w (A :: Γ) C' := mrz_all _ _ _ _
      rw [p3]
      omega
