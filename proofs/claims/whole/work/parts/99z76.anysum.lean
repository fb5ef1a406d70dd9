/-! ANY TWO TYPES, ANY BOUND OF A VARIABLE REPLACED. -/
/-- what stands in the bound is old -/
def KIb (β : Ty) (Γ0 : List Ty) (Kp : List Ty → Ty → Prop) (Δ : List Ty) : Prop := ¬ 16 ≤ hd (upb Γ0 Δ β) ∧ (∀ a c, upb Γ0 Δ β = tFun a c → Kp Δ a ∧ Kp Δ c) ∧ (∀ m x y z, m < 8 → upb Γ0 Δ β = tRec m x y z → (bit m 0 = true → Kp Δ x) ∧ (bit m 1 = true → Kp Δ y) ∧ (bit m 2 = true → Kp Δ z)) ∧ (∀ a c, upb Γ0 Δ β = tAll a c → Kp (a :: Δ) c)
def OVb (e : Nat) (β β' : Ty) (Γ0 : List Ty) : Prop := (ok Γ0.length β' = true ∧ hd β' ≠ 0) ∧ ∀ Δ, okc (cxs Δ Γ0 β) → ∃ Kp, KPb e β β' Γ0 Kp ∧ KGb e β β' Γ0 Kp ∧ KIb β Γ0 Kp Δ
section PmIf
variable {e : Nat} {Γ0 : List Ty} {β β' : Ty}
theorem mz_othb {b : Bool} {Δ : List Ty} {k : Nat} (z : OVb e β β' Γ0) (hc : okc (cxs Δ Γ0 β)) (hk : k < (cxs Δ Γ0 β).length) (ne : k ≠ Γ0.length) : mz b e (cxs Δ Γ0 β') (tVar k) = vlr b e (mz b e (cxs Δ Γ0 β') (lft k ((cxs Δ Γ0 β).length - k) (bnd (cxs Δ Γ0 β) k))) := by
  rw [cyd_exp (β' := β') ne]
  exact mz_var (cyd_okc (β := β) z.1.1 Δ hc) (by rw [cxs_ll β' β]; exact hk)
theorem upb_ok {Δ : List Ty} (hc : okc (cxs Δ Γ0 β)) : ok (cxs Δ Γ0 β).length (upb Γ0 Δ β) = true := by
  have a := ok_expose hc (SGc.k_lt (Γ0 := Γ0) (Δ := Δ) β)
  rw [cxs_up] at a
  exact a
theorem mz_ownb (b : Bool) {Δ : List Ty} (z : OVb e β β' Γ0) (hc : okc (cxs Δ Γ0 β)) : 1 ≤ mz b e (cxs Δ Γ0 β') (tVar Γ0.length) := by
  refine mz_one (b := b) (e := e) (cyd_okc (β := β) z.1.1 Δ hc) ?_ (by rw [hd_var]; omega)
  have q := SGc.k_lt (Γ0 := Γ0) (Δ := Δ) β'
  rw [ok_var]; simpa using q
section PmIo
variable {Kp : List Ty → Ty → Prop} {Δ : List Ty} {u T : Ty}
theorem old_tL (oD : ok Γ0.length β' = true) (K : KPb e β β' Γ0 Kp) (k : Kp Δ u) (b : Bool) (tb : TB e (cxs Δ Γ0 β, u, T)) : trx (cxs Δ Γ0 β, u, T) ≤ mz b e (cxs Δ Γ0 β') T := by
  have hc : okc (cxs Δ Γ0 β) := tb.1.1
  have hcD := cyd_okc (β := β) (Γ0 := Γ0) oD Δ hc
  have oT : ok (cxs Δ Γ0 β').length T = true := by rw [cxs_ll (Γ0 := Γ0) (Δ := Δ) β' β]; exact tb.1.2.2
  by_cases h0 : hd T = 0
  · exact Nat.le_trans (Nat.le_of_eq (trf_top _ h0)) (Nat.zero_le _)
  · have a1 := (trfB K (twt (cxs Δ Γ0 β, u, T)) Δ u T k tb).2 h0
    have a1 : trx (cxs Δ Γ0 β, u, T) + e ≤ chn (cl (cxs Δ Γ0 β)) u + pmz (qu e) false (oq (qu e) (cxs Δ Γ0 β')) T := a1
    have a2 : chn (cl (cxs Δ Γ0 β)) u ≤ e := chn_le tb.1.1 tb.2.1 tb.1.2.1
    have a3 := pmz_mz (e := e) (b := b) hcD oT false
    omega
theorem old_tR (oD : ok Γ0.length β' = true) (K : KPb e β β' Γ0 Kp) (k : Kp Δ u) (b : Bool) (tb : TB e (cxs Δ Γ0 β, T, u)) : trx (cxs Δ Γ0 β, T, u) ≤ mz b e (cxs Δ Γ0 β') T := by
  have hc : okc (cxs Δ Γ0 β) := tb.1.1
  have hcD := cyd_okc (β := β) (Γ0 := Γ0) oD Δ hc
  have oT : ok (cxs Δ Γ0 β').length T = true := by rw [cxs_ll (Γ0 := Γ0) (Δ := Δ) β' β]; exact tb.1.2.1
  have a1 := (trfB K (twt (cxs Δ Γ0 β, T, u)) Δ u T k (TB_sw tb)).1
  exact Nat.le_trans a1 (pmz_mz (e := e) (b := b) hcD oT true)
theorem old_gL {w : Nat} (oD : ok Γ0.length β' = true) (K : KPb e β β' Γ0 Kp) (k : Kp Δ u) (e1 : 1 ≤ e) (w1 : w ≤ 1) (tb : TB e (cxs Δ Γ0 β, u, T)) : gm (w, cxs Δ Γ0 β, u, T) ≤ mz false e (cxs Δ Γ0 β') T := by
  have hc : okc (cxs Δ Γ0 β) := tb.1.1
  have hcD := cyd_okc (β := β) (Γ0 := Γ0) oD Δ hc
  have oT : ok (cxs Δ Γ0 β').length T = true := by rw [cxs_ll (Γ0 := Γ0) (Δ := Δ) β' β]; exact tb.1.2.2
  have a1 := Nat.le_trans (gmB_T K e1 (twt (cxs Δ Γ0 β, u, T)) w Δ u T w1 k tb) (UTb_le K e1 tb)
  exact Nat.le_trans a1 (urm_nz (b := false) (e := e) (w := w) hcD oT)
theorem old_gR {w : Nat} (oD : ok Γ0.length β' = true) (K : KPb e β β' Γ0 Kp) (k : Kp Δ u) (e1 : 1 ≤ e) (w1 : w ≤ 1) (tb : TB e (cxs Δ Γ0 β, T, u)) : gm (w, cxs Δ Γ0 β, T, u) ≤ mz true e (cxs Δ Γ0 β') T := by
  have hc : okc (cxs Δ Γ0 β) := tb.1.1
  have hcD := cyd_okc (β := β) (Γ0 := Γ0) oD Δ hc
  have oT : ok (cxs Δ Γ0 β').length T = true := by rw [cxs_ll (Γ0 := Γ0) (Δ := Δ) β' β]; exact tb.1.2.1
  have a1 := Nat.le_trans (gmB_S K e1 (twt (cxs Δ Γ0 β, T, u)) w Δ T u w1 k tb) (UQb_le K e1 tb)
  exact Nat.le_trans a1 (urm_nz (b := true) (e := e) (w := w) hcD oT)
end PmIo
theorem TB_rc {Γ : List Ty} {m m' : Nat} {x y z x' y' z' : Ty} (hm : m < 8) (hm' : m' < 8) (tb : TB e (Γ, tRec m x y z, tRec m' x' y' z')) : (bit m 0 = true → bit m' 0 = true → TB e (Γ, x, x')) ∧ (bit m 1 = true → bit m' 1 = true → TB e (Γ, y, y')) ∧ (bit m 2 = true → bit m' 2 = true → TB e (Γ, z, z')) := by
  have hS : ok Γ.length (tRec m x y z) = true := tb.1.2.1
  have hT : ok Γ.length (tRec m' x' y' z') = true := tb.1.2.2
  have oS := (ok_rec hm).mp hS
  have oT := (ok_rec hm').mp hT
  have dS := (cbd_rec _ _ _ _).mp tb.2.2.1
  have dT := (cbd_rec _ _ _ _).mp tb.2.2.2
  exact ⟨fun b b' => ⟨⟨tb.1.1, okl_on oS.1 (bit_iff.mp b), okl_on oT.1 (bit_iff.mp b')⟩, tb.2.1, dS.1, dT.1⟩, fun b b' => ⟨⟨tb.1.1, okl_on oS.2.1 (bit_iff.mp b), okl_on oT.2.1 (bit_iff.mp b')⟩, tb.2.1, dS.2.1, dT.2.1⟩, fun b b' => ⟨⟨tb.1.1, okl_on oS.2.2 (bit_iff.mp b), okl_on oT.2.2 (bit_iff.mp b')⟩, tb.2.1, dS.2.2, dT.2.2⟩⟩
theorem TB_fc {Γ : List Ty} {a b a' b' : Ty} (tb : TB e (Γ, tFun a b, tFun a' b')) : TB e (Γ, a, a') ∧ TB e (Γ, b, b') := by
  have hS : ok Γ.length (tFun a b) = true := tb.1.2.1
  have hT : ok Γ.length (tFun a' b') = true := tb.1.2.2
  have oS := ok_fun.mp hS
  have oT := ok_fun.mp hT
  have dS := (cbd_fun _ _ _).mp tb.2.2.1
  have dT := (cbd_fun _ _ _).mp tb.2.2.2
  exact ⟨⟨⟨tb.1.1, oS.1, oT.1⟩, tb.2.1, dS.1, dT.1⟩, ⟨⟨tb.1.1, oS.2, oT.2⟩, tb.2.1, dS.2, dT.2⟩⟩
theorem stl_hb {Γ : List Ty} {m i v : Nat} {X Y : Ty} (hf : bit m i = true → trx (Γ, X, Y) ≤ v) : rxs (stl Γ m i X Y) ≤ v := by
  unfold stl
  by_cases q : bit m i = true
  · rw [if_pos q]
    have := hf q
    show trx (Γ, X, Y) + 0 ≤ v
    omega
  · rw [if_neg q]
    exact Nat.zero_le _
theorem stp_sub {Γ : List Ty} {m m' : Nat} {x y z x' y' z' : Ty} {l : List Tsk} (hm : m < 8) (hm' : m' < 8) (e1 : stp Γ (tRec m x y z) (tRec m' x' y' z') = some l) : ∀ g, g < 3 → bit m' g = true → bit m g = true := by
  by_cases n6 : m &&& m' = m'
  · have := (sub_bits m hm m' hm').mp n6
    intro g hg
    rcases (show g = 0 ∨ g = 1 ∨ g = 2 by omega) with rfl | rfl | rfl
    · exact this.1
    · exact this.2.1
    · exact this.2.2
  · exfalso
    have n3 : 8 ≤ hd (tRec m x y z) ∧ 8 ≤ hd (tRec m' x' y' z') ∧ hd (tRec m' x' y' z') < 16 := by rw [hd_rec, hd_rec]; omega
    have en : stp Γ (tRec m x y z) (tRec m' x' y' z') = none := by
      unfold stp
      rw [if_neg (by rw [hd_rec, hd_rec]; omega), if_neg (by rw [hd_rec]; omega), if_pos n3, hd_rec, hd_rec, show 8 + m - 8 = m by omega, show 8 + m' - 8 = m' by omega, if_neg n6]
    rw [en] at e1
    cases e1
/-- the bound, exposed on the left: comparisons -/
theorem trx_oldL {Δ : List Ty} {T : Ty} (z : OVb e β β' Γ0) (b : Bool) (tb : TB e (cxs Δ Γ0 β, upb Γ0 Δ β, T)) : trx (cxs Δ Γ0 β, upb Γ0 Δ β, T) ≤ mz b e (cxs Δ Γ0 β') T := by
  have hc : okc (cxs Δ Γ0 β) := tb.1.1
  obtain ⟨Kp, K, -, nv, kf, kr, ka⟩ := z.2 Δ hc
  have oD := z.1.1
  rcases stp_cases tb.1 with e1 | ⟨e1, q1⟩ | ⟨k, hk, eS, hT0, e1, q1⟩ | ⟨m, x, y, w, m', x', y', w', hm, hm', eS, eT, e1, q1⟩ | ⟨a, c, a', c', eS, eT, e1, q1⟩ | ⟨a, c, c', eS, eT, e1, q1⟩
  · rw [trx_none (z := (cxs Δ Γ0 β, upb Γ0 Δ β, T)) e1]; exact Nat.zero_le _
  · have q := stp_x (z := (cxs Δ Γ0 β, upb Γ0 Δ β, T)) tb.1 e1
    have q : 0 + rst (upb Γ0 Δ β) T = trx (cxs Δ Γ0 β, upb Γ0 Δ β, T) := q
    omega
  · exact absurd (by rw [eS, hd_var]; omega) nv
  · have q := stp_x (z := (cxs Δ Γ0 β, upb Γ0 Δ β, T)) tb.1 e1
    have q : rxs (stl (cxs Δ Γ0 β) m' 2 w w' ++ (stl (cxs Δ Γ0 β) m' 1 y y' ++ stl (cxs Δ Γ0 β) m' 0 x x')) + rst (upb Γ0 Δ β) T = trx (cxs Δ Γ0 β, upb Γ0 Δ β, T) := q
    rw [rxs_app, rxs_app] at q
    obtain ⟨k0, k1, k2⟩ := kr m x y w hm eS
    have tb' := tb
    rw [eS, eT] at tb' e1
    obtain ⟨b0, b1, b2⟩ := TB_rc hm hm' tb'
    have sb := stp_sub hm hm' e1
    have j0 := stl_hb (Γ := cxs Δ Γ0 β) (m := m') (i := 0) (X := x) (Y := x') (fun c => old_tL oD K (k0 (sb 0 (by decide) c)) b (b0 (sb 0 (by decide) c) c))
    have j1 := stl_hb (Γ := cxs Δ Γ0 β) (m := m') (i := 1) (X := y) (Y := y') (fun c => old_tL oD K (k1 (sb 1 (by decide) c)) b (b1 (sb 1 (by decide) c) c))
    have j2 := stl_hb (Γ := cxs Δ Γ0 β) (m := m') (i := 2) (X := w) (Y := w') (fun c => old_tL oD K (k2 (sb 2 (by decide) c)) b (b2 (sb 2 (by decide) c) c))
    rw [← q, q1, eT, mz_rec]
    omega
  · have q := stp_x (z := (cxs Δ Γ0 β, upb Γ0 Δ β, T)) tb.1 e1
    have q : trx (cxs Δ Γ0 β, c, c') + (trx (cxs Δ Γ0 β, a', a) + 0) + rst (upb Γ0 Δ β) T = trx (cxs Δ Γ0 β, upb Γ0 Δ β, T) := q
    obtain ⟨k1, k2⟩ := kf a c eS
    have tb' := tb
    rw [eS, eT] at tb'
    obtain ⟨b1, b2⟩ := TB_fc tb'
    have j1 := old_tR oD K k1 b (TB_sw b1)
    have j2 := old_tL oD K k2 b b2
    rw [← q, q1, eT, mz_fun]
    omega
  · have q := stp_x (z := (cxs Δ Γ0 β, upb Γ0 Δ β, T)) tb.1 e1
    have q : trx (a :: cxs Δ Γ0 β, c, c') + 0 + rst (upb Γ0 Δ β) T = trx (cxs Δ Γ0 β, upb Γ0 Δ β, T) := q
    have tb' := tb
    rw [eS, eT] at tb'
    have j1 := old_tL (Δ := a :: Δ) oD K (ka a c eS) b (TB_all tb')
    have j1 : trx (a :: cxs Δ Γ0 β, c, c') ≤ mz b e (a :: cxs Δ Γ0 β') c' := j1
    rw [← q, q1, eT, mz_all]
    omega
/-- on the right, against what is not below the variable -/
theorem trx_oldR {Δ : List Ty} (z : OVb e β β' Γ0) (b : Bool) : ∀ (f : Nat) (T : Ty), twt (cxs Δ Γ0 β, T, upb Γ0 Δ β) ≤ f → TB e (cxs Δ Γ0 β, T, upb Γ0 Δ β) → (¬ 16 ≤ hd T ∨ bel (cxs Δ Γ0 β) T (tVar Γ0.length) = false) → trx (cxs Δ Γ0 β, T, upb Γ0 Δ β) ≤ mz b e (cxs Δ Γ0 β') T
  | 0, T, hf, tb, _ => by have := twt_two tb.1; omega
  | f + 1, T, hf, tb, nb => by
    have hc : okc (cxs Δ Γ0 β) := tb.1.1
    have oT : ok (cxs Δ Γ0 β).length T = true := tb.1.2.1
    obtain ⟨Kp, K, -, nv, kf, kr, ka⟩ := z.2 Δ hc
    have oD := z.1.1
    have kl := SGc.k_lt (Γ0 := Γ0) (Δ := Δ) β
    rcases stp_cases tb.1 with e1 | ⟨e1, q1⟩ | ⟨k, hk, eT, hT0, e1, q1⟩ | ⟨m', x', y', w', m, x, y, w, hm', hm, eT, eS, e1, q1⟩ | ⟨a', c', a, c, eT, eS, e1, q1⟩ | ⟨a, c', c, eT, eS, e1, q1⟩
    · rw [trx_none (z := (cxs Δ Γ0 β, T, upb Γ0 Δ β)) e1]; exact Nat.zero_le _
    · have q := stp_x (z := (cxs Δ Γ0 β, T, upb Γ0 Δ β)) tb.1 e1
      have q : 0 + rst T (upb Γ0 Δ β) = trx (cxs Δ Γ0 β, T, upb Γ0 Δ β) := q
      omega
    · subst eT
      have nb : bel (cxs Δ Γ0 β) (tVar k) (tVar Γ0.length) = false := nb.resolve_left (fun q => q (by rw [hd_var]; omega))
      have oA : ok (cxs Δ Γ0 β).length (tVar Γ0.length) = true := by rw [ok_var]; simpa using kl
      by_cases ne : k = Γ0.length
      · subst ne
        rw [bel_refl _ _ _ (Nat.le_refl _) hc oA] at nb
        cases nb
      · have bv := bel_var (Γ := cxs Δ Γ0 β) (T := tVar Γ0.length) (k := k) (show tok (cxs Δ Γ0 β, tVar k, tVar Γ0.length) from ⟨hc, oT, oA⟩) (by rw [hd_var]; omega) (by rw [hd_var]; omega)
        rw [bv] at nb
        obtain ⟨c1, c2, c3⟩ := cl_expose hc tb.2.1 hk
        have t1 : TB e (cxs Δ Γ0 β, lft k ((cxs Δ Γ0 β).length - k) (bnd (cxs Δ Γ0 β) k), upb Γ0 Δ β) := ⟨⟨hc, ok_expose hc hk, tb.1.2.2⟩, tb.2.1, c2, tb.2.2.2⟩
        have tw := (stp_w tb.1 e1).1
        have tw : twt (cxs Δ Γ0 β, lft k ((cxs Δ Γ0 β).length - k) (bnd (cxs Δ Γ0 β) k), upb Γ0 Δ β) + 0 + 1 ≤ twt (cxs Δ Γ0 β, tVar k, upb Γ0 Δ β) := tw
        have j := trx_oldR z b f _ (by omega) t1 (Or.inr nb)
        have q := stp_x (z := (cxs Δ Γ0 β, tVar k, upb Γ0 Δ β)) tb.1 e1
        have q : trx (cxs Δ Γ0 β, lft k ((cxs Δ Γ0 β).length - k) (bnd (cxs Δ Γ0 β) k), upb Γ0 Δ β) + 0 + rst (tVar k) (upb Γ0 Δ β) = trx (cxs Δ Γ0 β, tVar k, upb Γ0 Δ β) := q
        rw [← q, q1, mz_othb z hc hk ne]
        have v := vlr_up (b := b) (e := e) (mz b e (cxs Δ Γ0 β') (lft k ((cxs Δ Γ0 β).length - k) (bnd (cxs Δ Γ0 β) k)))
        omega
    · have q := stp_x (z := (cxs Δ Γ0 β, T, upb Γ0 Δ β)) tb.1 e1
      have q : rxs (stl (cxs Δ Γ0 β) m 2 w' w ++ (stl (cxs Δ Γ0 β) m 1 y' y ++ stl (cxs Δ Γ0 β) m 0 x' x)) + rst T (upb Γ0 Δ β) = trx (cxs Δ Γ0 β, T, upb Γ0 Δ β) := q
      rw [rxs_app, rxs_app] at q
      obtain ⟨k0, k1, k2⟩ := kr m x y w hm eS
      have tb' := tb
      rw [eS, eT] at tb' e1
      obtain ⟨b0, b1, b2⟩ := TB_rc hm' hm tb'
      have sb := stp_sub hm' hm e1
      have j0 := stl_hb (Γ := cxs Δ Γ0 β) (m := m) (i := 0) (X := x') (Y := x) (fun c => old_tR oD K (k0 c) b (b0 (sb 0 (by decide) c) c))
      have j1 := stl_hb (Γ := cxs Δ Γ0 β) (m := m) (i := 1) (X := y') (Y := y) (fun c => old_tR oD K (k1 c) b (b1 (sb 1 (by decide) c) c))
      have j2 := stl_hb (Γ := cxs Δ Γ0 β) (m := m) (i := 2) (X := w') (Y := w) (fun c => old_tR oD K (k2 c) b (b2 (sb 2 (by decide) c) c))
      rw [← q, q1, eT, mz_rec]
      omega
    · have q := stp_x (z := (cxs Δ Γ0 β, T, upb Γ0 Δ β)) tb.1 e1
      have q : trx (cxs Δ Γ0 β, c', c) + (trx (cxs Δ Γ0 β, a, a') + 0) + rst T (upb Γ0 Δ β) = trx (cxs Δ Γ0 β, T, upb Γ0 Δ β) := q
      obtain ⟨k1, k2⟩ := kf a c eS
      have tb' := tb
      rw [eS, eT] at tb'
      obtain ⟨b1, b2⟩ := TB_fc tb'
      have j1 := old_tL oD K k1 b (TB_sw b1)
      have j2 := old_tR oD K k2 b b2
      rw [← q, q1, eT, mz_fun]
      omega
    · have q := stp_x (z := (cxs Δ Γ0 β, T, upb Γ0 Δ β)) tb.1 e1
      have q : trx (a :: cxs Δ Γ0 β, c', c) + 0 + rst T (upb Γ0 Δ β) = trx (cxs Δ Γ0 β, T, upb Γ0 Δ β) := q
      have tb' := tb
      rw [eS, eT] at tb'
      have j1 := old_tR (Δ := a :: Δ) oD K (ka a c eS) b (TB_all tb')
      have j1 : trx (a :: cxs Δ Γ0 β, c', c) ≤ mz b e (a :: cxs Δ Γ0 β') c' := j1
      rw [← q, q1, eT, mz_all]
      omega
/-- joins, the bound exposed on the left -/
theorem gmf_oldL {w : Nat} {Δ : List Ty} (z : OVb e β β' Γ0) (e1 : 1 ≤ e) (w1 : w ≤ 1) : ∀ (f : Nat) (T : Ty), TB e (cxs Δ Γ0 β, upb Γ0 Δ β, T) → bel (cxs Δ Γ0 β) T (tVar Γ0.length) = false → gmf f (w, cxs Δ Γ0 β, upb Γ0 Δ β, T) ≤ mz false e (cxs Δ Γ0 β') T
  | 0, _, _, _ => Nat.zero_le _
  | f + 1, T, tb, nb => by
    have w2 : w ≠ 2 := by omega
    have tk : tok (cxs Δ Γ0 β, upb Γ0 Δ β, T) := tb.1
    have hc : okc (cxs Δ Γ0 β) := tk.1
    have hT : ok (cxs Δ Γ0 β).length T = true := tk.2.2
    have hTz : ok (cxs Δ Γ0 β').length T = true := by rw [cxs_ll β' β]; exact hT
    have kl := SGc.k_lt (Γ0 := Γ0) (Δ := Δ) β
    obtain ⟨Kp, K, -, nv, kf, kr, ka⟩ := z.2 Δ hc
    have oD := z.1.1
    have u1 : trx (cxs Δ Γ0 β, upb Γ0 Δ β, T) ≤ mz false e (cxs Δ Γ0 β') T := trx_oldL z false tb
    have u2 : trx (cxs Δ Γ0 β, T, upb Γ0 Δ β) ≤ mz false e (cxs Δ Γ0 β') T := trx_oldR z false _ T (Nat.le_refl _) (TB_swap tb) (Or.inr nb)
    have tu : tru (cxs Δ Γ0 β, upb Γ0 Δ β, T) ≤ mz false e (cxs Δ Γ0 β') T := Nat.max_le.mpr ⟨u1, u2⟩
    suffices hh : gro (w, cxs Δ Γ0 β, upb Γ0 Δ β, T) + sgl (gmf f) (gcs (w, cxs Δ Γ0 β, upb Γ0 Δ β, T)) ≤ mz false e (cxs Δ Γ0 β') T by
      rw [gmf_succ f w2]
      omega
    by_cases bl : bel (cxs Δ Γ0 β) (upb Γ0 Δ β) T = true ∨ bel (cxs Δ Γ0 β) T (upb Γ0 Δ β) = true
    · rw [gcs_of_bel bl, gro_bel bl]; exact Nat.zero_le _
    have h1 : hd T ≠ 0 := fun e => bl (Or.inl (bel_top tk e))
    have one := mz_one (b := false) (e := e) (cyd_okc (β := β) oD Δ hc) hTz h1
    have kids := tb.gcs w2 (by omega)
    have f2 : ∀ z : Gz, z.1 = 2 → gmf f z = 0 := fun z h => gmf_two f h
    rcases gcs_cases (w := w) tk w2 with ⟨g1, g2, g3⟩ | ⟨q1, k, hk, eS, g1, g2, g3⟩ | ⟨q1, n1, k, hk, rfl, g1, g2, g3⟩ | ⟨m, X0, X1, X2, m', Y0, Y1, Y2, hm, hm', eS, eT, g1, g2, g3⟩ | ⟨A, D, A', D', eS, eT, g1, g2, g3⟩ | ⟨A, D, D', eS, eT, g1, g2, g3⟩
    · rw [g1]
      show gro _ + 0 ≤ _
      omega
    · exact absurd (by rw [eS, hd_var]; omega) nv
    · have t1 := (kids _ (by rw [g1]; exact List.mem_cons_self ..)).1
      have t1 : TB e (cxs Δ Γ0 β, upb Γ0 Δ β, lft k ((cxs Δ Γ0 β).length - k) (bnd (cxs Δ Γ0 β) k)) := t1
      have oA : ok (cxs Δ Γ0 β).length (tVar Γ0.length) = true := by rw [ok_var]; simpa using kl
      by_cases ne : k = Γ0.length
      · subst ne
        rw [bel_refl _ _ _ (Nat.le_refl _) hc oA] at nb
        cases nb
      · have bv := bel_var (Γ := cxs Δ Γ0 β) (T := tVar Γ0.length) (k := k) (show tok (cxs Δ Γ0 β, tVar k, tVar Γ0.length) from ⟨hc, hT, oA⟩) (by rw [hd_var]; omega) (by rw [hd_var]; omega)
        rw [bv] at nb
        have q := gmf_oldL z e1 w1 f _ t1 nb
        rw [g1, g2, mz_othb z hc hk ne]
        have v := vlr_up (b := false) (e := e) (mz false e (cxs Δ Γ0 β') (lft k ((cxs Δ Γ0 β).length - k) (bnd (cxs Δ Γ0 β) k)))
        show 1 + (gmf f (w, cxs Δ Γ0 β, upb Γ0 Δ β, lft k ((cxs Δ Γ0 β).length - k) (bnd (cxs Δ Γ0 β) k)) + 0) ≤ _
        omega
    · obtain ⟨k0, k1, k2⟩ := kr m X0 X1 X2 hm eS
      have tb' := tb
      rw [eS, eT] at tb'
      obtain ⟨b0, b1, b2⟩ := TB_rc hm hm' tb'
      rw [g1, g2, sgl_app, sgl_app]
      have j0 := gzl_s (w := w) (f := gmf f) (g := fun _ => 0) (g' := mz false e (cxs Δ Γ0 β')) (Γ := cxs Δ Γ0 β) (X := X0) (Y := Y0) hm hm' (show 0 < 3 by decide) w2 f2 (fun c1 c2 => by rw [Nat.zero_add]; exact Nat.le_trans (gmf_gm (z := (w, cxs Δ Γ0 β, X0, Y0)) (b0 c1 c2).1 f) (old_gL oD K (k0 c1) e1 w1 (b0 c1 c2)))
      have j1 := gzl_s (w := w) (f := gmf f) (g := fun _ => 0) (g' := mz false e (cxs Δ Γ0 β')) (Γ := cxs Δ Γ0 β) (X := X1) (Y := Y1) hm hm' (show 1 < 3 by decide) w2 f2 (fun c1 c2 => by rw [Nat.zero_add]; exact Nat.le_trans (gmf_gm (z := (w, cxs Δ Γ0 β, X1, Y1)) (b1 c1 c2).1 f) (old_gL oD K (k1 c1) e1 w1 (b1 c1 c2)))
      have j2 := gzl_s (w := w) (f := gmf f) (g := fun _ => 0) (g' := mz false e (cxs Δ Γ0 β')) (Γ := cxs Δ Γ0 β) (X := X2) (Y := Y2) hm hm' (show 2 < 3 by decide) w2 f2 (fun c1 c2 => by rw [Nat.zero_add]; exact Nat.le_trans (gmf_gm (z := (w, cxs Δ Γ0 β, X2, Y2)) (b2 c1 c2).1 f) (old_gL oD K (k2 c1) e1 w1 (b2 c1 c2)))
      rw [Nat.zero_add] at j0 j1 j2
      rw [eT, mz_rec]
      omega
    · obtain ⟨k1, k2⟩ := kf A D eS
      have tb' := tb
      rw [eS, eT] at tb'
      obtain ⟨b1, b2⟩ := TB_fc tb'
      have j1 := Nat.le_trans (gmf_gm (z := (1 - w, cxs Δ Γ0 β, A, A')) b1.1 f) (old_gL oD K k1 e1 (show 1 - w ≤ 1 by omega) b1)
      have j2 := Nat.le_trans (gmf_gm (z := (w, cxs Δ Γ0 β, D, D')) b2.1 f) (old_gL oD K k2 e1 w1 b2)
      rw [g1, g2, eT, mz_fun]
      show 1 + (gmf f (1 - w, cxs Δ Γ0 β, A, A') + (gmf f (w, cxs Δ Γ0 β, D, D') + 0)) ≤ _
      omega
    · have tb' := tb
      rw [eS, eT] at tb'
      have b1 := TB_all tb'
      have j1 := Nat.le_trans (gmf_gm (z := (w, A :: cxs Δ Γ0 β, D, D')) b1.1 f) (old_gL (Δ := A :: Δ) oD K (ka A D eS) e1 w1 b1)
      have j1 : gmf f (w, A :: cxs Δ Γ0 β, D, D') ≤ mz false e (A :: cxs Δ Γ0 β') D' := j1
      rw [g1, g2, eT, mz_all]
      show 2 + (gmf f (w, A :: cxs Δ Γ0 β, D, D') + 0) ≤ _
      omega
theorem gmf_oldR {w : Nat} {Δ : List Ty} (z : OVb e β β' Γ0) (e1 : 1 ≤ e) (w1 : w ≤ 1) (f : Nat) (S : Ty) (tb : TB e (cxs Δ Γ0 β, S, upb Γ0 Δ β)) (nS : ¬ 16 ≤ hd S) : gmf f (w, cxs Δ Γ0 β, S, upb Γ0 Δ β) ≤ mz true e (cxs Δ Γ0 β') S := by
  cases f with
  | zero => exact Nat.zero_le _
  | succ f =>
    have w2 : w ≠ 2 := by omega
    have tk : tok (cxs Δ Γ0 β, S, upb Γ0 Δ β) := tb.1
    have hc : okc (cxs Δ Γ0 β) := tk.1
    have hS : ok (cxs Δ Γ0 β).length S = true := tk.2.1
    have hT : ok (cxs Δ Γ0 β).length (upb Γ0 Δ β) = true := tk.2.2
    have hSz : ok (cxs Δ Γ0 β').length S = true := by rw [cxs_ll β' β]; exact hS
    obtain ⟨Kp, K, -, nv, kf, kr, ka⟩ := z.2 Δ hc
    have oD := z.1.1
    have u1 : trx (cxs Δ Γ0 β, upb Γ0 Δ β, S) ≤ mz true e (cxs Δ Γ0 β') S := trx_oldL z true (TB_swap tb)
    have u2 : trx (cxs Δ Γ0 β, S, upb Γ0 Δ β) ≤ mz true e (cxs Δ Γ0 β') S := trx_oldR z true _ S (Nat.le_refl _) tb (Or.inl nS)
    have tu : tru (cxs Δ Γ0 β, S, upb Γ0 Δ β) ≤ mz true e (cxs Δ Γ0 β') S := Nat.max_le.mpr ⟨u2, u1⟩
    suffices hh : gro (w, cxs Δ Γ0 β, S, upb Γ0 Δ β) + sgl (gmf f) (gcs (w, cxs Δ Γ0 β, S, upb Γ0 Δ β)) ≤ mz true e (cxs Δ Γ0 β') S by
      rw [gmf_succ f w2]
      omega
    by_cases bl : bel (cxs Δ Γ0 β) S (upb Γ0 Δ β) = true ∨ bel (cxs Δ Γ0 β) (upb Γ0 Δ β) S = true
    · rw [gcs_of_bel bl, gro_bel bl]; exact Nat.zero_le _
    have h1 : hd S ≠ 0 := fun e => bl (Or.inr (bel_top ⟨hc, hT, hS⟩ e))
    have one := mz_one (b := true) (e := e) (cyd_okc (β := β) oD Δ hc) hSz h1
    have f2 : ∀ z : Gz, z.1 = 2 → gmf f z = 0 := fun z h => gmf_two f h
    rcases gcs_cases (w := w) tk w2 with ⟨g1, g2, g3⟩ | ⟨q1, k, hk, eS, g1, g2, g3⟩ | ⟨q1, n1, k, hk, eT, g1, g2, g3⟩ | ⟨m, X0, X1, X2, m', Y0, Y1, Y2, hm, hm', eS, eT, g1, g2, g3⟩ | ⟨A, D, A', D', eS, eT, g1, g2, g3⟩ | ⟨A, D, D', eS, eT, g1, g2, g3⟩
    · rw [g1]
      show gro _ + 0 ≤ _
      omega
    · exact absurd (by rw [eS, hd_var]; omega) nS
    · exact absurd (by rw [eT, hd_var]; omega) nv
    · obtain ⟨k0, k1, k2⟩ := kr m' Y0 Y1 Y2 hm' eT
      have tb' := tb
      rw [eS, eT] at tb'
      obtain ⟨b0, b1, b2⟩ := TB_rc hm hm' tb'
      rw [g1, g2, sgl_app, sgl_app]
      have j0 := gzl_s (w := w) (f := gmf f) (g := mz true e (cxs Δ Γ0 β')) (g' := fun _ => 0) (Γ := cxs Δ Γ0 β) (X := X0) (Y := Y0) hm hm' (show 0 < 3 by decide) w2 f2 (fun c1 c2 => by rw [Nat.add_zero]; exact Nat.le_trans (gmf_gm (z := (w, cxs Δ Γ0 β, X0, Y0)) (b0 c1 c2).1 f) (old_gR oD K (k0 c2) e1 w1 (b0 c1 c2)))
      have j1 := gzl_s (w := w) (f := gmf f) (g := mz true e (cxs Δ Γ0 β')) (g' := fun _ => 0) (Γ := cxs Δ Γ0 β) (X := X1) (Y := Y1) hm hm' (show 1 < 3 by decide) w2 f2 (fun c1 c2 => by rw [Nat.add_zero]; exact Nat.le_trans (gmf_gm (z := (w, cxs Δ Γ0 β, X1, Y1)) (b1 c1 c2).1 f) (old_gR oD K (k1 c2) e1 w1 (b1 c1 c2)))
      have j2 := gzl_s (w := w) (f := gmf f) (g := mz true e (cxs Δ Γ0 β')) (g' := fun _ => 0) (Γ := cxs Δ Γ0 β) (X := X2) (Y := Y2) hm hm' (show 2 < 3 by decide) w2 f2 (fun c1 c2 => by rw [Nat.add_zero]; exact Nat.le_trans (gmf_gm (z := (w, cxs Δ Γ0 β, X2, Y2)) (b2 c1 c2).1 f) (old_gR oD K (k2 c2) e1 w1 (b2 c1 c2)))
      rw [Nat.add_zero] at j0 j1 j2
      rw [eS, mz_rec]
      omega
    · obtain ⟨k1, k2⟩ := kf A' D' eT
      have tb' := tb
      rw [eS, eT] at tb'
      obtain ⟨b1, b2⟩ := TB_fc tb'
      have j1 := Nat.le_trans (gmf_gm (z := (1 - w, cxs Δ Γ0 β, A, A')) b1.1 f) (old_gR oD K k1 e1 (show 1 - w ≤ 1 by omega) b1)
      have j2 := Nat.le_trans (gmf_gm (z := (w, cxs Δ Γ0 β, D, D')) b2.1 f) (old_gR oD K k2 e1 w1 b2)
      rw [g1, g2, eS, mz_fun]
      show 1 + (gmf f (1 - w, cxs Δ Γ0 β, A, A') + (gmf f (w, cxs Δ Γ0 β, D, D') + 0)) ≤ _
      omega
    · have tb' := tb
      rw [eS, eT] at tb'
      have b1 := TB_all tb'
      have j1 := Nat.le_trans (gmf_gm (z := (w, A :: cxs Δ Γ0 β, D, D')) b1.1 f) (old_gR (Δ := A :: Δ) oD K (ka A D' eT) e1 w1 b1)
      have j1 : gmf f (w, A :: cxs Δ Γ0 β, D, D') ≤ mz true e (A :: cxs Δ Γ0 β') D := j1
      rw [g1, g2, eS, mz_all]
      show 2 + (gmf f (w, A :: cxs Δ Γ0 β, D, D') + 0) ≤ _
      omega
theorem trf_opb (z : OVb e β β' Γ0) : ∀ (f : Nat) (b b' : Bool) (Δ : List Ty) (S T : Ty), TB e (cxs Δ Γ0 β, S, T) → twt (cxs Δ Γ0 β, S, T) ≤ f → trf f (cxs Δ Γ0 β, S, T) ≤ mz b e (cxs Δ Γ0 β') S + mz b' e (cxs Δ Γ0 β') T
  | 0, _, _, _, _, _, tb, hf => by have := twt_two tb.1; omega
  | f + 1, b, b', Δ, S, T, tb, hf => by
    have hc : okc (cxs Δ Γ0 β) := tb.1.1
    have hS : ok (cxs Δ Γ0 β).length S = true := tb.1.2.1
    have hT : ok (cxs Δ Γ0 β).length T = true := tb.1.2.2
    have bS : cbd e (cl (cxs Δ Γ0 β)) S := tb.2.2.1
    have bT : cbd e (cl (cxs Δ Γ0 β)) T := tb.2.2.2
    rcases stp_cases tb.1 with e1 | ⟨e1, r1⟩ | ⟨k, hk, rfl, hT0, e1, r1⟩ | ⟨m, x, y, w, m', x', y', w', hm, hm', rfl, rfl, e1, r1⟩ | ⟨a, c, a', c', rfl, rfl, e1, r1⟩ | ⟨a, c, c', rfl, rfl, e1, r1⟩
    · unfold trf
      simp only [e1]
      exact Nat.zero_le _
    · unfold trf
      simp only [e1]
      show rst S T + 0 ≤ _
      omega
    · obtain ⟨c1, c2, c3⟩ := cl_expose hc tb.2.1 hk
      have t1 : TB e (cxs Δ Γ0 β, lft k ((cxs Δ Γ0 β).length - k) (bnd (cxs Δ Γ0 β) k), T) := ⟨⟨hc, ok_expose hc hk, hT⟩, tb.2.1, c2, bT⟩
      have tw := (stp_w tb.1 e1).1
      have tw : twt (cxs Δ Γ0 β, lft k ((cxs Δ Γ0 β).length - k) (bnd (cxs Δ Γ0 β) k), T) + 0 + 1 ≤ twt (cxs Δ Γ0 β, tVar k, T) := tw
      have et : trf (f + 1) (cxs Δ Γ0 β, tVar k, T) = 1 + (trf f (cxs Δ Γ0 β, lft k ((cxs Δ Γ0 β).length - k) (bnd (cxs Δ Γ0 β) k), T) + 0) := by
        rw [trf]
        simp only [e1]
        rw [r1]
        rfl
      rw [et]
      by_cases ne : k = Γ0.length
      · subst ne
        have q0 := mz_ownb b z hc
        rw [cxs_up] at t1 tw ⊢
        have q := Nat.le_trans (trf_trx t1.1 f) (trx_oldL z b' t1)
        omega
      · rw [mz_othb z hc hk ne]
        have q := trf_opb z f b b' Δ _ T t1 (by omega)
        have v := vlr_up (b := b) (e := e) (mz b e (cxs Δ Γ0 β') (lft k ((cxs Δ Γ0 β).length - k) (bnd (cxs Δ Γ0 β) k)))
        omega
    · have oS := (ok_rec hm).mp hS
      have oT := (ok_rec hm').mp hT
      have dS := (cbd_rec _ _ _ _).mp bS
      have dT := (cbd_rec _ _ _ _).mp bT
      have tw := (stp_w tb.1 e1).1
      rw [tws_app, tws_app] at tw
      have hsub : ∀ g, g < 3 → bit m' g = true → bit m g = true := by
        by_cases n6 : m &&& m' = m'
        · have := (sub_bits m hm m' hm').mp n6
          intro g hg
          rcases (show g = 0 ∨ g = 1 ∨ g = 2 by omega) with rfl | rfl | rfl
          · exact this.1
          · exact this.2.1
          · exact this.2.2
        · exfalso
          have n3 : 8 ≤ hd (tRec m x y w) ∧ 8 ≤ hd (tRec m' x' y' w') ∧ hd (tRec m' x' y' w') < 16 := by rw [hd_rec, hd_rec]; omega
          have en : stp (cxs Δ Γ0 β) (tRec m x y w) (tRec m' x' y' w') = none := by
            unfold stp
            rw [if_neg (by rw [hd_rec, hd_rec]; omega), if_neg (by rw [hd_rec]; omega), if_pos n3, hd_rec, hd_rec, show 8 + m - 8 = m by omega, show 8 + m' - 8 = m' by omega, if_neg n6]
          rw [en] at e1
          cases e1
      have key : ∀ (g : Nat) (p p' : Ty), g < 3 → okl (cxs Δ Γ0 β).length m g p → okl (cxs Δ Γ0 β).length m' g p' → cbd e (cl (cxs Δ Γ0 β)) p → cbd e (cl (cxs Δ Γ0 β)) p' → tws (stl (cxs Δ Γ0 β) m' g p p') ≤ f → sumt (trf f) (stl (cxs Δ Γ0 β) m' g p p') ≤ mz b e (cxs Δ Γ0 β') p + mz b' e (cxs Δ Γ0 β') p' := by
        intro g p p' hg hp hp' bp bp' hw
        unfold stl at hw ⊢
        by_cases hb1 : bit m' g = true
        · rw [if_pos hb1] at hw ⊢
          have hw : twt (cxs Δ Γ0 β, p, p') + 0 ≤ f := hw
          exact trf_opb z f b b' Δ p p' ⟨⟨hc, okl_on hp (bit_iff.mp (hsub g hg hb1)), okl_on hp' (bit_iff.mp hb1)⟩, tb.2.1, bp, bp'⟩ (by omega)
        · rw [if_neg hb1]
          exact Nat.zero_le _
      have k0 := key 0 x x' (by decide) oS.1 oT.1 dS.1 dT.1 (by omega)
      have k1 := key 1 y y' (by decide) oS.2.1 oT.2.1 dS.2.1 dT.2.1 (by omega)
      have k2 := key 2 w w' (by decide) oS.2.2 oT.2.2 dS.2.2 dT.2.2 (by omega)
      have et : trf (f + 1) (cxs Δ Γ0 β, tRec m x y w, tRec m' x' y' w') = sumt (trf f) (stl (cxs Δ Γ0 β) m' 2 w w') + (sumt (trf f) (stl (cxs Δ Γ0 β) m' 1 y y') + sumt (trf f) (stl (cxs Δ Γ0 β) m' 0 x x')) := by
        rw [trf]
        simp only [e1]
        rw [r1, sumt_app, sumt_app]
        omega
      rw [et, mz_rec, mz_rec]
      omega
    · have oS := ok_fun.mp hS
      have oT := ok_fun.mp hT
      have dS := (cbd_fun _ _ _).mp bS
      have dT := (cbd_fun _ _ _).mp bT
      have tw := (stp_w tb.1 e1).1
      have tw : twt (cxs Δ Γ0 β, c, c') + (twt (cxs Δ Γ0 β, a', a) + 0) + 1 ≤ twt (cxs Δ Γ0 β, tFun a c, tFun a' c') := tw
      have i1 := trf_opb z f b b' Δ c c' ⟨⟨hc, oS.2, oT.2⟩, tb.2.1, dS.2, dT.2⟩ (by omega)
      have j1 := trf_opb z f b' b Δ a' a ⟨⟨hc, oT.1, oS.1⟩, tb.2.1, dT.1, dS.1⟩ (by omega)
      have et : trf (f + 1) (cxs Δ Γ0 β, tFun a c, tFun a' c') = trf f (cxs Δ Γ0 β, c, c') + (trf f (cxs Δ Γ0 β, a', a) + 0) := by
        rw [trf]
        simp only [e1]
        rw [r1]
        show 0 + (trf f (cxs Δ Γ0 β, c, c') + (trf f (cxs Δ Γ0 β, a', a) + 0)) = _
        omega
      rw [et, mz_fun, mz_fun]
      omega
    · have t2 := TB_all tb
      have tw := (stp_w tb.1 e1).1
      have tw : twt (a :: cxs Δ Γ0 β, c, c') + 0 + 1 ≤ twt (cxs Δ Γ0 β, tAll a c, tAll a c') := tw
      have i1 := trf_opb z f b b' (a :: Δ) c c' t2 (by show twt (a :: cxs Δ Γ0 β, c, c') ≤ f; omega)
      have i1 : trf f (a :: cxs Δ Γ0 β, c, c') ≤ mz b e (a :: cxs Δ Γ0 β') c + mz b' e (a :: cxs Δ Γ0 β') c' := i1
      have et : trf (f + 1) (cxs Δ Γ0 β, tAll a c, tAll a c') = 1 + (trf f (a :: cxs Δ Γ0 β, c, c') + 0) := by
        rw [trf]
        simp only [e1]
        rw [r1]
        rfl
      rw [et, mz_all, mz_all]
      omega
/-- rows of a comparison -/
theorem trx_opb (z : OVb e β β' Γ0) (b b' : Bool) {Δ : List Ty} {S T : Ty} (tb : TB e (cxs Δ Γ0 β, S, T)) : trx (cxs Δ Γ0 β, S, T) ≤ mz b e (cxs Δ Γ0 β') S + mz b' e (cxs Δ Γ0 β') T := trf_opb z _ b b' Δ S T tb (Nat.le_refl _)
theorem tru_opb (z : OVb e β β' Γ0) (b b' : Bool) {Δ : List Ty} {S T : Ty} (tb : TB e (cxs Δ Γ0 β, S, T)) : tru (cxs Δ Γ0 β, S, T) ≤ mz b e (cxs Δ Γ0 β') S + mz b' e (cxs Δ Γ0 β') T := by
  have q1 := trx_opb z b b' tb
  have q2 := trx_opb z b' b (TB_swap tb)
  show max (trx (cxs Δ Γ0 β, S, T)) (trx (cxs Δ Γ0 β, T, S)) ≤ _
  omega
end PmIf
section PmIg
variable {e : Nat} {Γ0 : List Ty} {β β' : Ty}
theorem gmf_opb (z : OVb e β β' Γ0) (e1 : 1 ≤ e) : ∀ (f w : Nat) (Δ : List Ty) (S T : Ty), w ≤ 1 → TB e (cxs Δ Γ0 β, S, T) → gmf f (w, cxs Δ Γ0 β, S, T) ≤ mz true e (cxs Δ Γ0 β') S + mz false e (cxs Δ Γ0 β') T
  | 0, _, _, _, _, _, _ => Nat.zero_le _
  | f + 1, w, Δ, S, T, w1, tb => by
    have w2 : w ≠ 2 := by omega
    have tk : tok (cxs Δ Γ0 β, S, T) := tb.1
    have hc : okc (cxs Δ Γ0 β) := tk.1
    have hS : ok (cxs Δ Γ0 β).length S = true := tk.2.1
    have hT : ok (cxs Δ Γ0 β).length T = true := tk.2.2
    have hSz : ok (cxs Δ Γ0 β').length S = true := by rw [cxs_ll β' β]; exact hS
    have tu := tru_opb z true false tb
    have ih := gmf_opb z e1 f
    suffices hh : gro (w, cxs Δ Γ0 β, S, T) + sgl (gmf f) (gcs (w, cxs Δ Γ0 β, S, T)) ≤ mz true e (cxs Δ Γ0 β') S + mz false e (cxs Δ Γ0 β') T by
      rw [gmf_succ f w2]
      omega
    by_cases bl : bel (cxs Δ Γ0 β) S T = true ∨ bel (cxs Δ Γ0 β) T S = true
    · rw [gcs_of_bel bl, gro_bel bl]; exact Nat.zero_le _
    have h0 : hd S ≠ 0 := fun e => bl (Or.inr (bel_top ⟨hc, hT, hS⟩ e))
    have one := mz_one (b := true) (e := e) (cyd_okc (β := β) z.1.1 Δ hc) hSz h0
    have kids := tb.gcs w2 (by omega)
    have bS : cbd e (cl (cxs Δ Γ0 β)) S := tb.2.2.1
    have bT : cbd e (cl (cxs Δ Γ0 β)) T := tb.2.2.2
    rcases gcs_cases (w := w) tk w2 with ⟨g1, g2, g3⟩ | ⟨q1, k, hk, rfl, g1, g2, g3⟩ | ⟨q1, n1, k, hk, rfl, g1, g2, g3⟩ | ⟨m, X0, X1, X2, m', Y0, Y1, Y2, hm, hm', rfl, rfl, g1, g2, g3⟩ | ⟨A, D, A', D', rfl, rfl, g1, g2, g3⟩ | ⟨A, D, D', rfl, rfl, g1, g2, g3⟩
    · rw [g1]
      show gro _ + 0 ≤ _
      omega
    · have t1 := (kids _ (by rw [g1]; exact List.mem_cons_self ..)).1
      have t1 : TB e (cxs Δ Γ0 β, lft k ((cxs Δ Γ0 β).length - k) (bnd (cxs Δ Γ0 β) k), T) := t1
      rw [g1, g2]
      show 1 + (gmf f (w, cxs Δ Γ0 β, lft k ((cxs Δ Γ0 β).length - k) (bnd (cxs Δ Γ0 β) k), T) + 0) ≤ _
      by_cases ne : k = Γ0.length
      · subst ne
        have nb : bel (cxs Δ Γ0 β) T (tVar Γ0.length) = false := by
          cases hq : bel (cxs Δ Γ0 β) T (tVar Γ0.length) with
          | false => rfl
          | true => exact absurd (Or.inr hq) bl
        have q0 := mz_ownb true z hc
        rw [cxs_up] at t1 ⊢
        have q := gmf_oldL z e1 w1 f T t1 nb
        omega
      · rw [mz_othb z hc hk ne]
        have q := ih w Δ _ T w1 t1
        have v := vlr_up (b := true) (e := e) (mz true e (cxs Δ Γ0 β') (lft k ((cxs Δ Γ0 β).length - k) (bnd (cxs Δ Γ0 β) k)))
        omega
    · have t1 := (kids _ (by rw [g1]; exact List.mem_cons_self ..)).1
      have t1 : TB e (cxs Δ Γ0 β, S, lft k ((cxs Δ Γ0 β).length - k) (bnd (cxs Δ Γ0 β) k)) := t1
      rw [g1, g2]
      show 1 + (gmf f (w, cxs Δ Γ0 β, S, lft k ((cxs Δ Γ0 β).length - k) (bnd (cxs Δ Γ0 β) k)) + 0) ≤ _
      by_cases ne : k = Γ0.length
      · subst ne
        have q0 := mz_ownb false z hc
        rw [cxs_up] at t1 ⊢
        have q := gmf_oldR z e1 w1 f S t1 n1
        omega
      · rw [mz_othb (b := false) z hc hk ne]
        have q := ih w Δ S _ w1 t1
        have v := vlr_up (b := false) (e := e) (mz false e (cxs Δ Γ0 β') (lft k ((cxs Δ Γ0 β).length - k) (bnd (cxs Δ Γ0 β) k)))
        omega
    · have oS := (ok_rec hm).mp hS
      have oT := (ok_rec hm').mp hT
      have dS := (cbd_rec _ _ _ _).mp bS
      have dT := (cbd_rec _ _ _ _).mp bT
      rw [g1, g2, sgl_app, sgl_app, mz_rec, mz_rec]
      have f2 : ∀ z : Gz, z.1 = 2 → gmf f z = 0 := fun z h => gmf_two f h
      have k0 := gzl_s (w := w) (f := gmf f) (g := mz true e (cxs Δ Γ0 β')) (g' := mz false e (cxs Δ Γ0 β')) (Γ := cxs Δ Γ0 β) (X := X0) (Y := Y0) hm hm' (show 0 < 3 by decide) w2 f2 (fun b1 b2 => ih w Δ X0 Y0 w1 ⟨⟨hc, okl_on oS.1 (bit_iff.mp b1), okl_on oT.1 (bit_iff.mp b2)⟩, tb.2.1, dS.1, dT.1⟩)
      have k1 := gzl_s (w := w) (f := gmf f) (g := mz true e (cxs Δ Γ0 β')) (g' := mz false e (cxs Δ Γ0 β')) (Γ := cxs Δ Γ0 β) (X := X1) (Y := Y1) hm hm' (show 1 < 3 by decide) w2 f2 (fun b1 b2 => ih w Δ X1 Y1 w1 ⟨⟨hc, okl_on oS.2.1 (bit_iff.mp b1), okl_on oT.2.1 (bit_iff.mp b2)⟩, tb.2.1, dS.2.1, dT.2.1⟩)
      have k2 := gzl_s (w := w) (f := gmf f) (g := mz true e (cxs Δ Γ0 β')) (g' := mz false e (cxs Δ Γ0 β')) (Γ := cxs Δ Γ0 β) (X := X2) (Y := Y2) hm hm' (show 2 < 3 by decide) w2 f2 (fun b1 b2 => ih w Δ X2 Y2 w1 ⟨⟨hc, okl_on oS.2.2 (bit_iff.mp b1), okl_on oT.2.2 (bit_iff.mp b2)⟩, tb.2.1, dS.2.2, dT.2.2⟩)
      omega
    · have oS := ok_fun.mp hS
      have oT := ok_fun.mp hT
      have dS := (cbd_fun _ _ _).mp bS
      have dT := (cbd_fun _ _ _).mp bT
      have p1 := ih (1 - w) Δ A A' (by omega) ⟨⟨hc, oS.1, oT.1⟩, tb.2.1, dS.1, dT.1⟩
      have p2 := ih w Δ D D' w1 ⟨⟨hc, oS.2, oT.2⟩, tb.2.1, dS.2, dT.2⟩
      rw [g1, g2, mz_fun, mz_fun]
      show 1 + (gmf f (1 - w, cxs Δ Γ0 β, A, A') + (gmf f (w, cxs Δ Γ0 β, D, D') + 0)) ≤ _
      omega
    · have p2 := ih w (A :: Δ) D D' w1 (TB_all tb)
      have p2 : gmf f (w, A :: cxs Δ Γ0 β, D, D') ≤ mz true e (A :: cxs Δ Γ0 β') D + mz false e (A :: cxs Δ Γ0 β') D' := p2
      rw [g1, g2, mz_all, mz_all]
      show 2 + (gmf f (w, A :: cxs Δ Γ0 β, D, D') + 0) ≤ _
      omega
/-- ROWS OF A JOIN, where no scheme inside the scheme has its bound's head: both sides together, the scheme being worth 3 + e -/
theorem gm_opb (z : OVb e β β' Γ0) (e1 : 1 ≤ e) {w : Nat} (w1 : w ≤ 1) {Δ : List Ty} {S T : Ty} (tb : TB e (cxs Δ Γ0 β, S, T)) : gm (w, cxs Δ Γ0 β, S, T) ≤ mz true e (cxs Δ Γ0 β') S + mz false e (cxs Δ Γ0 β') T := gmf_opb z e1 _ w Δ S T w1 tb
theorem gz_othb {Δ : List Ty} {k : Nat} (z : OVb e β β' Γ0) (hc : okc (cxs Δ Γ0 β)) (hk : k < (cxs Δ Γ0 β).length) (ne : k ≠ Γ0.length) : gz (cxs Δ Γ0 β') (tVar k) = gz (cxs Δ Γ0 β') (lft k ((cxs Δ Γ0 β).length - k) (bnd (cxs Δ Γ0 β) k)) := by
  rw [cyd_exp (β' := β') ne]
  exact gz_var (cyd_okc (β := β) z.1.1 Δ hc) (by rw [cxs_ll β' β]; exact hk)
theorem gnf_oldL {w : Nat} {Δ : List Ty} (z : OVb e β β' Γ0) (w1 : w ≤ 1) : ∀ (f : Nat) (T : Ty), TB e (cxs Δ Γ0 β, upb Γ0 Δ β, T) → bel (cxs Δ Γ0 β) T (tVar Γ0.length) = false → gnf f (w, cxs Δ Γ0 β, upb Γ0 Δ β, T) ≤ gz (cxs Δ Γ0 β') T
  | 0, T, tb, _ => gz_pos (cyd_okc (β := β) z.1.1 Δ tb.1.1) (by rw [cxs_ll β' β]; exact tb.1.2.2)
  | f + 1, T, tb, nb => by
    have w2 : w ≠ 2 := by omega
    have tk : tok (cxs Δ Γ0 β, upb Γ0 Δ β, T) := tb.1
    have hc : okc (cxs Δ Γ0 β) := tk.1
    have hT : ok (cxs Δ Γ0 β).length T = true := tk.2.2
    have kl := SGc.k_lt (Γ0 := Γ0) (Δ := Δ) β
    obtain ⟨Kp, K, G, nv, kf, kr, ka⟩ := z.2 Δ hc
    have pos : ∀ X : Ty, ok (cxs Δ Γ0 β).length X = true → 1 ≤ gz (cxs Δ Γ0 β') X := fun X o => gz_pos (cyd_okc (β := β) z.1.1 Δ hc) (by rw [cxs_ll β' β]; exact o)
    have one := pos T hT
    have kids := tb.gcs w2 (by omega)
    rw [gnf_succ f w2]
    rcases gcs_cases (w := w) tk w2 with ⟨g1, g2, g3⟩ | ⟨q1, k, hk, eS, g1, g2, g3⟩ | ⟨q1, n1, k, hk, rfl, g1, g2, g3⟩ | ⟨m, X0, X1, X2, m', Y0, Y1, Y2, hm, hm', eS, eT, g1, g2, g3⟩ | ⟨A, D, A', D', eS, eT, g1, g2, g3⟩ | ⟨A, D, D', eS, eT, g1, g2, g3⟩
    · rw [g1, g3]
      show max 1 (1 + 0) ≤ _
      omega
    · exact absurd (by rw [eS, hd_var]; omega) nv
    · have t1 := (kids _ (by rw [g1]; exact List.mem_cons_self ..)).1
      have oA : ok (cxs Δ Γ0 β).length (tVar Γ0.length) = true := by rw [ok_var]; simpa using kl
      by_cases ne : k = Γ0.length
      · subst ne
        rw [bel_refl _ _ _ (Nat.le_refl _) hc oA] at nb
        cases nb
      · have bv := bel_var (Γ := cxs Δ Γ0 β) (T := tVar Γ0.length) (k := k) (show tok (cxs Δ Γ0 β, tVar k, tVar Γ0.length) from ⟨hc, hT, oA⟩) (by rw [hd_var]; omega) (by rw [hd_var]; omega)
        rw [bv] at nb
        have q := gnf_oldL z w1 f _ t1 nb
        rw [gz_othb z hc hk ne] at one ⊢
        rw [g1, g3]
        show max 1 (0 + (gnf f (w, cxs Δ Γ0 β, upb Γ0 Δ β, lft k ((cxs Δ Γ0 β).length - k) (bnd (cxs Δ Γ0 β) k)) + 0)) ≤ _
        omega
    · obtain ⟨k0, k1, k2⟩ := kr m X0 X1 X2 hm eS
      have tb' := tb
      rw [eS, eT] at tb'
      obtain ⟨b0, b1, b2⟩ := TB_rc hm hm' tb'
      by_cases m0 : m' = 0
      · subst m0
        have bt : bel (cxs Δ Γ0 β) (upb Γ0 Δ β) T = true := by rw [eS, eT]; exact bel_rec0 hm tb'.1
        rw [gcs_of_bel (Or.inl bt), g3]
        show max 1 (1 + 0) ≤ _
        omega
      have hT' : ok (cxs Δ Γ0 β).length (tRec m' Y0 Y1 Y2) = true := tb'.1.2.2
      have oT := (ok_rec hm').mp hT'
      rw [g1, g3, sgl_app, sgl_app, eT, gz_rec]
      have j0 := gzl_oR (w := w) (f := f) (Γ := cxs Δ Γ0 β) (X := X0) (Y := Y0) (v := gz (cxs Δ Γ0 β') Y0) hm hm' (show 0 < 3 by decide) (fun c2 => pos _ (okl_on oT.1 (bit_iff.mp c2))) (fun c1 c2 => (gnB K G f w Δ X0 Y0 w1 (k0 c1) (b0 c1 c2)).1)
      have j1 := gzl_oR (w := w) (f := f) (Γ := cxs Δ Γ0 β) (X := X1) (Y := Y1) (v := gz (cxs Δ Γ0 β') Y1) hm hm' (show 1 < 3 by decide) (fun c2 => pos _ (okl_on oT.2.1 (bit_iff.mp c2))) (fun c1 c2 => (gnB K G f w Δ X1 Y1 w1 (k1 c1) (b1 c1 c2)).1)
      have j2 := gzl_oR (w := w) (f := f) (Γ := cxs Δ Γ0 β) (X := X2) (Y := Y2) (v := gz (cxs Δ Γ0 β') Y2) hm hm' (show 2 < 3 by decide) (fun c2 => pos _ (okl_on oT.2.2 (bit_iff.mp c2))) (fun c1 c2 => (gnB K G f w Δ X2 Y2 w1 (k2 c1) (b2 c1 c2)).1)
      have ms := mis_sum m' hm' m0
      have ng : ngc (8 + m') = 1 + mis m' := by
        unfold ngc
        rw [if_neg (by omega), show 8 + m' - 8 = m' by omega]
      rw [ng]
      omega
    · obtain ⟨k1, k2⟩ := kf A D eS
      have tb' := tb
      rw [eS, eT] at tb'
      obtain ⟨b1, b2⟩ := TB_fc tb'
      have j1 := (gnB K G f (1 - w) Δ A A' (by omega) k1 b1).1
      have j2 := (gnB K G f w Δ D D' w1 k2 b2).1
      have n1 := ngc_one 1 (Or.inl rfl)
      rw [g1, g3, eT, gz_fun]
      show max 1 (1 + (gnf f (1 - w, cxs Δ Γ0 β, A, A') + (gnf f (w, cxs Δ Γ0 β, D, D') + 0))) ≤ _
      omega
    · have tb' := tb
      rw [eS, eT] at tb'
      have j1 := (gnB K G f w (A :: Δ) D D' w1 (ka A D eS) (TB_all tb')).1
      have j1 : gnf f (w, A :: cxs Δ Γ0 β, D, D') ≤ gz (A :: cxs Δ Γ0 β') D' := j1
      rw [g1, g3, eT, gz_all]
      show max 1 (1 + (gnf f (w, A :: cxs Δ Γ0 β, D, D') + 0)) ≤ _
      omega
theorem gnf_oldR {w : Nat} {Δ : List Ty} (z : OVb e β β' Γ0) (w1 : w ≤ 1) (f : Nat) (S : Ty) (tb : TB e (cxs Δ Γ0 β, S, upb Γ0 Δ β)) (nS : ¬ 16 ≤ hd S) : gnf f (w, cxs Δ Γ0 β, S, upb Γ0 Δ β) ≤ gz (cxs Δ Γ0 β') S := by
  have hc : okc (cxs Δ Γ0 β) := tb.1.1
  have hS : ok (cxs Δ Γ0 β).length S = true := tb.1.2.1
  have pos : ∀ X : Ty, ok (cxs Δ Γ0 β).length X = true → 1 ≤ gz (cxs Δ Γ0 β') X := fun X o => gz_pos (cyd_okc (β := β) z.1.1 Δ hc) (by rw [cxs_ll β' β]; exact o)
  have one := pos S hS
  cases f with
  | zero => exact one
  | succ f =>
    have w2 : w ≠ 2 := by omega
    have tk : tok (cxs Δ Γ0 β, S, upb Γ0 Δ β) := tb.1
    obtain ⟨Kp, K, G, nv, kf, kr, ka⟩ := z.2 Δ hc
    rw [gnf_succ f w2]
    rcases gcs_cases (w := w) tk w2 with ⟨g1, g2, g3⟩ | ⟨q1, k, hk, eS, g1, g2, g3⟩ | ⟨q1, n1, k, hk, eT, g1, g2, g3⟩ | ⟨m, X0, X1, X2, m', Y0, Y1, Y2, hm, hm', eS, eT, g1, g2, g3⟩ | ⟨A, D, A', D', eS, eT, g1, g2, g3⟩ | ⟨A, D, D', eS, eT, g1, g2, g3⟩
    · rw [g1, g3]
      show max 1 (1 + 0) ≤ _
      omega
    · exact absurd (by rw [eS, hd_var]; omega) nS
    · exact absurd (by rw [eT, hd_var]; omega) nv
    · obtain ⟨k0, k1, k2⟩ := kr m' Y0 Y1 Y2 hm' eT
      have tb' := tb
      rw [eS, eT] at tb'
      obtain ⟨b0, b1, b2⟩ := TB_rc hm hm' tb'
      by_cases m0 : m = 0
      · subst m0
        have bt : bel (cxs Δ Γ0 β) (upb Γ0 Δ β) S = true := by rw [eS, eT]; exact bel_rec0 hm' (TB_swap tb').1
        rw [gcs_of_bel (Or.inr bt), g3]
        show max 1 (1 + 0) ≤ _
        omega
      have hS' : ok (cxs Δ Γ0 β).length (tRec m X0 X1 X2) = true := tb'.1.2.1
      have oS := (ok_rec hm).mp hS'
      rw [g1, g3, sgl_app, sgl_app, eS, gz_rec]
      have j0 := gzl_oL (w := w) (f := f) (Γ := cxs Δ Γ0 β) (X := X0) (Y := Y0) (v := gz (cxs Δ Γ0 β') X0) hm hm' (show 0 < 3 by decide) (fun c1 => pos _ (okl_on oS.1 (bit_iff.mp c1))) (fun c1 c2 => (gnB K G f w Δ Y0 X0 w1 (k0 c2) (TB_sw (b0 c1 c2))).2)
      have j1 := gzl_oL (w := w) (f := f) (Γ := cxs Δ Γ0 β) (X := X1) (Y := Y1) (v := gz (cxs Δ Γ0 β') X1) hm hm' (show 1 < 3 by decide) (fun c1 => pos _ (okl_on oS.2.1 (bit_iff.mp c1))) (fun c1 c2 => (gnB K G f w Δ Y1 X1 w1 (k1 c2) (TB_sw (b1 c1 c2))).2)
      have j2 := gzl_oL (w := w) (f := f) (Γ := cxs Δ Γ0 β) (X := X2) (Y := Y2) (v := gz (cxs Δ Γ0 β') X2) hm hm' (show 2 < 3 by decide) (fun c1 => pos _ (okl_on oS.2.2 (bit_iff.mp c1))) (fun c1 c2 => (gnB K G f w Δ Y2 X2 w1 (k2 c2) (TB_sw (b2 c1 c2))).2)
      have ms := mis_sum m hm m0
      have ng : ngc (8 + m) = 1 + mis m := by
        unfold ngc
        rw [if_neg (by omega), show 8 + m - 8 = m by omega]
      rw [ng]
      omega
    · obtain ⟨k1, k2⟩ := kf A' D' eT
      have tb' := tb
      rw [eS, eT] at tb'
      obtain ⟨b1, b2⟩ := TB_fc tb'
      have j1 := (gnB K G f (1 - w) Δ A' A (by omega) k1 (TB_sw b1)).2
      have j2 := (gnB K G f w Δ D' D w1 k2 (TB_sw b2)).2
      have n1 := ngc_one 1 (Or.inl rfl)
      rw [g1, g3, eS, gz_fun]
      show max 1 (1 + (gnf f (1 - w, cxs Δ Γ0 β, A, A') + (gnf f (w, cxs Δ Γ0 β, D, D') + 0))) ≤ _
      omega
    · have tb' := tb
      rw [eS, eT] at tb'
      have j1 := (gnB K G f w (A :: Δ) D' D w1 (ka A D' eT) (TB_sw (TB_all tb'))).2
      have j1 : gnf f (w, A :: cxs Δ Γ0 β, D, D') ≤ gz (A :: cxs Δ Γ0 β') D := j1
      rw [g1, g3, eS, gz_all]
      show max 1 (1 + (gnf f (w, A :: cxs Δ Γ0 β, D, D') + 0)) ≤ _
      omega
theorem gnf_opb (z : OVb e β β' Γ0) : ∀ (f w : Nat) (Δ : List Ty) (S T : Ty), w ≤ 1 → TB e (cxs Δ Γ0 β, S, T) → gnf f (w, cxs Δ Γ0 β, S, T) ≤ gz (cxs Δ Γ0 β') S + gz (cxs Δ Γ0 β') T
  | 0, _, Δ, S, T, _, tk => by
    have := gz_pos (T := S) (cyd_okc (β := β) z.1.1 Δ tk.1.1) (by rw [cxs_ll β' β]; exact tk.1.2.1)
    show 1 ≤ _
    omega
  | f + 1, w, Δ, S, T, w1, tb => by
    have tk : tok (cxs Δ Γ0 β, S, T) := tb.1
    have hb : cbc e (cxs Δ Γ0 β) := tb.2.1
    have bS : cbd e (cl (cxs Δ Γ0 β)) S := tb.2.2.1
    have bT : cbd e (cl (cxs Δ Γ0 β)) T := tb.2.2.2
    have w2 : w ≠ 2 := by omega
    have hc : okc (cxs Δ Γ0 β) := tk.1
    have hS : ok (cxs Δ Γ0 β).length S = true := tk.2.1
    have hT : ok (cxs Δ Γ0 β).length T = true := tk.2.2
    have pos : ∀ X : Ty, ok (cxs Δ Γ0 β).length X = true → 1 ≤ gz (cxs Δ Γ0 β') X := fun X o => gz_pos (cyd_okc (β := β) z.1.1 Δ hc) (by rw [cxs_ll β' β]; exact o)
    have oneS := pos S hS
    have oneT := pos T hT
    have ih := gnf_opb z f
    rw [gnf_succ f w2]
    by_cases bl : bel (cxs Δ Γ0 β) S T = true ∨ bel (cxs Δ Γ0 β) T S = true
    · have g3 : gno (w, cxs Δ Γ0 β, S, T) ≤ 1 := by
        unfold gno
        split
        · exact Nat.le_refl _
        · split
          · exact Nat.le_refl _
          · split
            · exact Nat.le_refl _
            · split <;> omega
      rw [gcs_of_bel bl]
      show max 1 (gno _ + 0) ≤ _
      omega
    rcases gcs_cases (w := w) tk w2 with ⟨g1, g2, g3⟩ | ⟨q1, k, hk, rfl, g1, g2, g3⟩ | ⟨q1, n1, k, hk, rfl, g1, g2, g3⟩ | ⟨m, X0, X1, X2, m', Y0, Y1, Y2, hm, hm', rfl, rfl, g1, g2, g3⟩ | ⟨A, D, A', D', rfl, rfl, g1, g2, g3⟩ | ⟨A, D, D', rfl, rfl, g1, g2, g3⟩
    · rw [g1, g3]
      show max 1 (1 + 0) ≤ _
      omega
    · rw [g1, g3]
      show max 1 (0 + (gnf f (w, cxs Δ Γ0 β, lft k ((cxs Δ Γ0 β).length - k) (bnd (cxs Δ Γ0 β) k), T) + 0)) ≤ _
      by_cases ne : k = Γ0.length
      · subst ne
        have t2 := (cl_expose hc hb hk).2.1
        rw [cxs_up] at t2 ⊢
        have t1 : TB e (cxs Δ Γ0 β, upb Γ0 Δ β, T) := ⟨⟨hc, upb_ok hc, hT⟩, hb, t2, bT⟩
        have nb : bel (cxs Δ Γ0 β) T (tVar Γ0.length) = false := by
          cases hq : bel (cxs Δ Γ0 β) T (tVar Γ0.length) with
          | false => rfl
          | true => exact absurd (Or.inr hq) bl
        have q := gnf_oldL z w1 f T t1 nb
        omega
      · have q := ih w Δ _ T w1 ⟨⟨hc, ok_expose hc hk, hT⟩, hb, (cl_expose hc hb hk).2.1, bT⟩
        rw [gz_othb z hc hk ne]
        omega
    · rw [g1, g3]
      show max 1 (0 + (gnf f (w, cxs Δ Γ0 β, S, lft k ((cxs Δ Γ0 β).length - k) (bnd (cxs Δ Γ0 β) k)) + 0)) ≤ _
      by_cases ne : k = Γ0.length
      · subst ne
        have t2 := (cl_expose hc hb hk).2.1
        rw [cxs_up] at t2 ⊢
        have t1 : TB e (cxs Δ Γ0 β, S, upb Γ0 Δ β) := ⟨⟨hc, hS, upb_ok hc⟩, hb, bS, t2⟩
        have q := gnf_oldR z w1 f S t1 n1
        omega
      · have q := ih w Δ S _ w1 ⟨⟨hc, hS, ok_expose hc hk⟩, hb, bS, (cl_expose hc hb hk).2.1⟩
        rw [gz_othb z hc hk ne]
        omega
    · have oS := (ok_rec hm).mp hS
      have oT := (ok_rec hm').mp hT
      have dS := (cbd_rec _ _ _ _).mp bS
      have dT := (cbd_rec _ _ _ _).mp bT
      rw [g1, g3, sgl_app, sgl_app, gz_rec, gz_rec]
      have n1 := ngc_one (8 + m) (Or.inr ⟨m, hm, rfl⟩)
      have k0 := gzl_g (w := w) (f := f) (g := gz (cxs Δ Γ0 β')) (Γ := cxs Δ Γ0 β) (X := X0) (Y := Y0) hm hm' (show 0 < 3 by decide) (fun b1 => pos _ (okl_on oS.1 (bit_iff.mp b1))) (fun b2 => pos _ (okl_on oT.1 (bit_iff.mp b2))) (fun b1 b2 => ih w Δ X0 Y0 w1 ⟨⟨hc, okl_on oS.1 (bit_iff.mp b1), okl_on oT.1 (bit_iff.mp b2)⟩, hb, dS.1, dT.1⟩)
      have k1 := gzl_g (w := w) (f := f) (g := gz (cxs Δ Γ0 β')) (Γ := cxs Δ Γ0 β) (X := X1) (Y := Y1) hm hm' (show 1 < 3 by decide) (fun b1 => pos _ (okl_on oS.2.1 (bit_iff.mp b1))) (fun b2 => pos _ (okl_on oT.2.1 (bit_iff.mp b2))) (fun b1 b2 => ih w Δ X1 Y1 w1 ⟨⟨hc, okl_on oS.2.1 (bit_iff.mp b1), okl_on oT.2.1 (bit_iff.mp b2)⟩, hb, dS.2.1, dT.2.1⟩)
      have k2 := gzl_g (w := w) (f := f) (g := gz (cxs Δ Γ0 β')) (Γ := cxs Δ Γ0 β) (X := X2) (Y := Y2) hm hm' (show 2 < 3 by decide) (fun b1 => pos _ (okl_on oS.2.2 (bit_iff.mp b1))) (fun b2 => pos _ (okl_on oT.2.2 (bit_iff.mp b2))) (fun b1 b2 => ih w Δ X2 Y2 w1 ⟨⟨hc, okl_on oS.2.2 (bit_iff.mp b1), okl_on oT.2.2 (bit_iff.mp b2)⟩, hb, dS.2.2, dT.2.2⟩)
      omega
    · have oS := ok_fun.mp hS
      have oT := ok_fun.mp hT
      have p1 := ih (1 - w) Δ A A' (by omega) ⟨⟨hc, oS.1, oT.1⟩, hb, ((cbd_fun _ _ _).mp bS).1, ((cbd_fun _ _ _).mp bT).1⟩
      have p2 := ih w Δ D D' w1 ⟨⟨hc, oS.2, oT.2⟩, hb, ((cbd_fun _ _ _).mp bS).2, ((cbd_fun _ _ _).mp bT).2⟩
      have n1 := ngc_one 1 (Or.inl rfl)
      rw [g1, g3, gz_fun, gz_fun]
      show max 1 (1 + (gnf f (1 - w, cxs Δ Γ0 β, A, A') + (gnf f (w, cxs Δ Γ0 β, D, D') + 0))) ≤ _
      omega
    · have p2 := ih w (A :: Δ) D D' w1 (TB_all tb)
      have p2 : gnf f (w, A :: cxs Δ Γ0 β, D, D') ≤ gz (A :: cxs Δ Γ0 β') D + gz (A :: cxs Δ Γ0 β') D' := p2
      rw [g1, g3, gz_all, gz_all]
      show max 1 (1 + (gnf f (w, A :: cxs Δ Γ0 β, D, D') + 0)) ≤ _
      omega
theorem gn_opb (z : OVb e β β' Γ0) {w : Nat} (w1 : w ≤ 1) {Δ : List Ty} {S T : Ty} (tk : TB e (cxs Δ Γ0 β, S, T)) : gn (w, cxs Δ Γ0 β, S, T) ≤ gz (cxs Δ Γ0 β') S + gz (cxs Δ Γ0 β') T := gnf_opb z _ w Δ S T w1 tk
/-- a join -/
theorem LJ_opb (z : OVb e β β' Γ0) (e1 : 1 ≤ e) {Δ : List Ty} {S T : Ty} (tb : TB e (cxs Δ Γ0 β, S, T)) (hx : cch (cxs Δ Γ0 β) ≤ 56) (lS : (flat S).length ≤ 16) (lT : (flat T).length ≤ 16) (q1 : mz true e (cxs Δ Γ0 β') S + mz false e (cxs Δ Γ0 β') T ≤ 887) (q2 : gz (cxs Δ Γ0 β') S + gz (cxs Δ Γ0 β') T ≤ 597) : LJ (cxs Δ Γ0 β) S T := by
  have a1 := hgt_ctx tb.1.1 tb.1.2.1 lS hx
  have a2 := hgt_ctx tb.1.1 tb.1.2.2 lT hx
  have a3 := Nat.le_trans (gm_opb z e1 (Nat.zero_le 1) tb) q1
  have a4 := Nat.le_trans (gn_opb z (Nat.zero_le 1) tb) q2
  exact ⟨Nat.le_trans (Nat.add_le_add a1 a2) (by decide), a3, Nat.add_le_add_right a4 3⟩
/-- a comparison -/
theorem LB_opb (z : OVb e β β' Γ0) {Δ : List Ty} {S T : Ty} (b b' : Bool) (tb : TB e (cxs Δ Γ0 β, S, T)) (hx : cch (cxs Δ Γ0 β) ≤ 56) (lS : (flat S).length ≤ 16) (lT : (flat T).length ≤ 16) (q1 : mz b e (cxs Δ Γ0 β') S + mz b' e (cxs Δ Γ0 β') T ≤ 887) : LB (cxs Δ Γ0 β) S T := by
  have a1 := hgt_ctx tb.1.1 tb.1.2.1 lS hx
  have a2 := hgt_ctx tb.1.1 tb.1.2.2 lT hx
  have a3 := Nat.le_trans (trx_opb z b b' tb) q1
  have a4 := len_cch (cxs Δ Γ0 β)
  refine ⟨Nat.le_trans (Nat.add_le_add a1 a2) (by decide), ?_, a3⟩
  omega
end PmIg
