/-! SO THE BOUND MAY BE REPLACED. -/
section PmIm
variable {B C : Ty} {Δ : List Ty}
theorem trx_nv {Γ : List Ty} {u : Ty} {j : Nat} (tk : tok (Γ, u, tVar j)) (nu : ¬ 16 ≤ hd u) : trx (Γ, u, tVar j) = 0 := by
  rcases stp_cases tk with e1 | ⟨e1, q1⟩ | ⟨k', hk', e, -, e1, q1⟩ | ⟨m, x, y, z, m', x', y', z', hm, hm', e, e', e1, q1⟩ | ⟨a, b, a', b', e, e', e1, q1⟩ | ⟨a, b, b', e, e', e1, q1⟩
  · exact trx_none (z := (Γ, u, tVar j)) e1
  · have q := stp_x (z := (Γ, u, tVar j)) tk e1
    have q : 0 + rst u (tVar j) = trx (Γ, u, tVar j) := q
    omega
  · exact absurd (by rw [e, hd_var]; omega) nu
  · have := congrArg hd e'
    rw [hd_var, hd_rec] at this
    omega
  · have := congrArg hd e'
    rw [hd_var, hd_fun] at this
    omega
  · have := congrArg hd e'
    rw [hd_var, hd_all] at this
    omega
/-- the small bound -/
def Dr9 : Ty := tRec 1 (Dn9 2) .nil .nil
theorem Dr9_ok (d : Nat) : ok d Dr9 = true := by
  unfold Dr9
  exact (ok_rec (by decide)).mpr ⟨by unfold okl; rw [if_pos (by decide)]; exact Dn9_ok _ _, by unfold okl; rw [if_neg (by decide)], by unfold okl; rw [if_neg (by decide)]⟩
theorem Dr9_lft (k j : Nat) : lft k j Dr9 = Dr9 := by
  unfold Dr9
  rw [lft_rec (by decide), Dn9_lft]
  rfl
theorem Dr9_pmz (Γ : List Ty) : pmz (qu 1) true (oq (qu 1) Γ) Dr9 = 2 := by
  unfold Dr9
  rw [pmz_rec, Dn9_pmz, pmz_nil]
  rfl
theorem Dr9_urm (b : Bool) (Γ : List Ty) : 8 ≤ urm b 1 0 Γ Dr9 := by
  have p1 : urm b 1 0 Γ (tRec 1 (Dn9 2) .nil .nil) = (1 + 1) + (urm b 1 0 Γ (Dn9 2) + (urm b 1 0 Γ .nil + urm b 1 0 Γ .nil)) := mrz_rec _ _ _ _ _
  have q := Dn9_urm b 2 Γ
  unfold Dr9
  omega
theorem Dr9_mz (b : Bool) (Γ : List Ty) : mz b 1 Γ Dr9 = 8 := by
  unfold Dr9
  rw [mz_rec, Dn9_mz]
  have e : mz b 1 Γ .nil = 0 := nz_nil _
  rw [e]
theorem Dr9_gz (Γ : List Ty) : gz Γ Dr9 = 6 := by
  unfold Dr9
  rw [gz_rec, Dn9_gz]
  have e : gz Γ .nil = 0 := nz_nil _
  rw [e]
  rfl
theorem sp_ov {d : Nat} {b : Ty} (oσ : ok 0 (tAll B C) = true) (nC : sN B 0 1 C = false) (ob : ok 0 b = true) (sp : SPd (tAll B C) d b) (h7 : tch b ≤ tch (tAll B C) + 7) : OVb 1 b Dr9 [] := by
  obtain ⟨b16, q0⟩ := SPd_ch oσ d b ob sp
  have hd1 : hd Dr9 ≠ 0 := by unfold Dr9; rw [hd_rec]; decide
  have h8 : tch b ≤ tch (tAll B C) + 8 := by omega
  refine ⟨⟨Dr9_ok _, hd1⟩, fun Δ hc => ?_⟩
  have nvb : ∀ Δ : List Ty, ¬ 16 ≤ hd (upb [] Δ b) := fun Δ => by
    have := hd_lft_lo 0 (Δ.length + 1) b b16
    show ¬ 16 ≤ hd (lft 0 (Δ.length + 1) b)
    omega
  have up : ∀ Δ : List Ty, upb [] Δ Dr9 = Dr9 := fun Δ => Dr9_lft _ _
  have K : KCy b [] (Kd9 B C b (cxs Δ [] b).length d) := Kd9.cl oσ nC
  have base : Ky9 B tTop b (cxs Δ [] b).length Δ tTop := ⟨⟨by rw [cxs_len]; omega, Nat.le_refl _⟩, hc, fun j hj hp => by omega, fun j hj hp => by omega, rfl, gq_top, kv9_top _⟩
  refine ⟨Kd9 B C b (cxs Δ [] b).length d, ⟨⟨Dr9_ok _, hd1⟩, fun Δ' t k => ?_⟩, fun Δ' t k tk => ?_, nvb Δ, ?_⟩
  · have cl := K Δ' t k
    refine ⟨cl.1, cl.2.1, cl.2.2.1, cl.2.2.2, fun tb => ?_⟩
    have hc' : okc (cxs Δ' [] b) := tb.1.1
    have hn := sp_hn (β := b) (l := (cxs Δ [] b).length) (Δ := Δ') oσ nC hc' d b ob sp h8
    have ha := hn.ha K (nvb Δ')
    have a := ha.2 t k tb
    unfold EWb
    rw [up, Dr9_pmz]
    have u1 := Dr9_urm false (cxs Δ' [] Dr9)
    have u2 := Dr9_urm true (cxs Δ' [] Dr9)
    refine ⟨?_, fun nv => ?_, ?_⟩
    · by_cases v : 16 ≤ hd t
      · obtain ⟨j, hj, rfl⟩ := hd_is_var tb.1.2.1 v
        exact Nat.le_trans (Nat.le_of_eq (trx_nv (Γ := cxs Δ' [] b) ⟨hc', tb.1.2.2, tb.1.2.1⟩ (nvb Δ'))) (Nat.zero_le _)
      · have q := (hn.2 t k tb v).1.1
        omega
    · have q := (hn.2 t k tb nv).2.1.1
      omega
    · have q := a.2.1.2
      omega
  · have hc' : okc (cxs Δ' [] b) := tk.1.1
    rw [up, Dr9_gz]
    have hn := sp_hn (β := b) (l := (cxs Δ [] b).length) (Δ := Δ') oσ nC hc' d b ob sp h8
    have a := (hn.ha K (nvb Δ')).2 t k tk
    exact ⟨by have := a.2.2.1; omega, by have := a.2.2.2; omega⟩
  · obtain ⟨k1, k2, k3⟩ := sp_kids oσ nC base ob sp h8
    exact ⟨k1, k2, fun a c e => Or.inl (k3 a c e)⟩
end PmIm
