/-! BY NATURE, any number of instances waiting, binders of types in the term. -/
theorem mem_sum : ∀ (l : List Nat) (x : Nat), x ∈ l → x ≤ l.sum
  | [], x, h => by cases h
  | a :: l, x, h => by
    rw [List.sum_cons]
    rcases List.mem_cons.mp h with e | e
    · omega
    · have := mem_sum l x e
      omega
theorem BGh.hdc {P : List (List Nat)} {hd hd' : Nat → Nat} {b c m v : Nat} (h : ∀ s, s ≤ m → hd s = hd' s) (g : BGh P hd b c m v) : BGh P hd' b c m v := by
  obtain ⟨n, s, V, ⟨l, l1, l2, l3, l4⟩, a1, a2, a3, a4, a5, a6⟩ := g
  refine ⟨n, s, V, ⟨l, l1, l2, l3, ?_⟩, a1, a2, a3, a4, a5, a6⟩
  rw [l4]
  congr 1
  exact List.map_congr_left (fun x hx => h x (by have := mem_sum l x hx; omega))
theorem g3k_nil : ∀ f : Nat, g3k f (.nil : Ty) = 0
  | 0 => rfl
  | f + 1 => by
    have i := g3k_nil f
    have eK : nKd (.nil : Ty) = 0 := rfl
    have eX : nX (.nil : Ty) = .nil := rfl
    have eY : nY (.nil : Ty) = .nil := rfl
    unfold g3k
    rw [eK, eX, eY, i]
    rfl
theorem onz_low {t0 s2 : Nat} {n1 h : Nat → Nat} {Γ0 : List Ty} {β : Ty} : ∀ (Δ1 : List Ty) {j : Nat}, j < Γ0.length → vw (onz t0 n1 s2 h (cxs Δ1 Γ0 β)) j = vw (onz t0 n1 s2 h Γ0) j
  | [], j, hj => by
    have l1 := onz_len t0 n1 s2 h Γ0
    show vw (h (nz t0 n1 s2 h (onz t0 n1 s2 h Γ0) β) :: onz t0 n1 s2 h Γ0) j = _
    rw [vw_cons, l1, if_neg (by omega)]
  | a :: Δ1, j, hj => by
    have l1 := onz_len t0 n1 s2 h (cxs Δ1 Γ0 β)
    have q := onz_low (t0 := t0) (n1 := n1) (s2 := s2) (h := h) (Γ0 := Γ0) (β := β) Δ1 hj
    show vw (h (nz t0 n1 s2 h (onz t0 n1 s2 h (cxs Δ1 Γ0 β)) a) :: onz t0 n1 s2 h (cxs Δ1 Γ0 β)) j = _
    rw [vw_cons, l1, if_neg (by rw [cxs_len]; omega)]
    exact q
theorem g3k_z : ∀ (f : Nat) (t : Ty) (D : Nat) (sc : List Nat), TWf f D sc t → g3k f t = 0 ∨ 5 ≤ g3k f t
  | 0, _, _, _, w => w.elim
  | f + 1, t, D, sc, w => by
    obtain ⟨w0, w5, w6, w7, w8, w9, w10, w11, w12⟩ := w
    have ih := fun u D' sc' => g3k_z f u D' sc'
    unfold g3k
    by_cases c5 : nKd t = 5
    · rw [if_pos c5]; exact Or.inl rfl
    rw [if_neg c5]
    by_cases c6 : nKd t = 6
    · rw [if_pos c6]
      exact ih (nY t) _ _ (w6 c6).2.2.2
    rw [if_neg c6]
    by_cases c7 : nKd t = 7 ∨ nKd t = 11
    · rw [if_pos c7]
      have x1 : TWf f D sc (nX t) := by
        rcases c7 with c | c
        · exact (w7 (Or.inl c)).1
        · exact (w11 c).2
      exact ih (nX t) _ _ x1
    rw [if_neg c7]
    by_cases c8 : nKd t = 8
    · rw [if_pos c8]
      have := tch_pos (w8 c8).1
      split
      · exact Or.inr (by omega)
      · exact Or.inl rfl
    rw [if_neg c8]
    by_cases c9 : nKd t = 9
    · rw [if_pos c9]
      have q := ih (nX t) _ _ (w9 c9).1
      have tp := tch_pos (w9 c9).2.1
      split
      · split
        · rw [Nat.zero_add]; exact q
        · exact Or.inr (by omega)
      · exact Or.inl rfl
    rw [if_neg c9]
    by_cases c10 : nKd t = 10
    · rw [if_pos c10]
      obtain ⟨m8, x1⟩ := w10 c10
      have key : ∀ g, g < 3 → g3k f (nP t g) = 0 ∨ 5 ≤ g3k f (nP t g) := by
        intro g hg
        by_cases c : bit (nMk t) g = true
        · exact ih (nP t g) _ _ (x1 g hg c)
        · have e : nP t g = .nil := w0.2.2.1 g hg (by
            rw [c10]
            show (if bit (nMk t) g = true then 1 else 0) = 0
            rw [if_neg c])
          rw [e]
          exact Or.inl (g3k_nil f)
      have q0 : g3k f (nX t) = 0 ∨ 5 ≤ g3k f (nX t) := key 0 (by decide)
      have q1 : g3k f (nY t) = 0 ∨ 5 ≤ g3k f (nY t) := key 1 (by decide)
      have q2 : g3k f (nZ t) = 0 ∨ 5 ≤ g3k f (nZ t) := key 2 (by decide)
      omega
    rw [if_neg c10]
    have c12 : nKd t = 12 := by
      have k1 := w0.1.1
      have k2 := w0.1.2
      omega
    obtain ⟨x1, x2⟩ := w7 (Or.inr c12)
    have q1 := ih (nX t) _ _ x1
    have q2 := ih (nY t) _ _ x2
    omega
def ebz (F : FrT) (hv y yg m E0 p wB ob z : Nat) : Nat := max (max (E0 + p * max z wB) (y + ob * z)) (Zx F (max (max z yg) (hv + max 1 (Zx F yg (m - 5)))) (m - 5))
def e2z (F : FrT) (hv y yg m k z : Nat) : Nat := max (Zx F (max z y) (k + 2)) (Zx F (max (max z yg) (hv + max 1 (Zx F yg (m - 5)))) (m - 5))
theorem ebz_mono {F : FrT} {hv y yg m E0 p wB ob : Nat} (z z' : Nat) (h : z ≤ z') : ebz F hv y yg m E0 p wB ob z ≤ ebz F hv y yg m E0 p wB ob z' := by
  have h1 := Zx_mono (F := F) (show max (max z yg) (hv + max 1 (Zx F yg (m - 5))) ≤ max (max z' yg) (hv + max 1 (Zx F yg (m - 5))) by omega) (m - 5)
  have h2 := Nat.mul_le_mul_left p (show max z wB ≤ max z' wB by omega)
  have h3 := Nat.mul_le_mul_left ob h
  unfold ebz
  omega
theorem e2z_mono {F : FrT} {hv y yg m k : Nat} (z z' : Nat) (h : z ≤ z') : e2z F hv y yg m k z ≤ e2z F hv y yg m k z' := by
  have h1 := Zx_mono (F := F) (show max (max z yg) (hv + max 1 (Zx F yg (m - 5))) ≤ max (max z' yg) (hv + max 1 (Zx F yg (m - 5))) by omega) (m - 5)
  have h2 := Zx_mono (F := F) (show max z y ≤ max z' y by omega) (k + 2)
  unfold e2z
  omega
def smZ1 (P : List (List Nat)) (F W : FrT) (X : List Nat) (hv E0 p wB ob k y cv cd m Bd : Nat) : Bool := Nat.ble y (X.getD cv 0) && (Nat.ble wB y && (Nat.ble (cv + cd + 2 * m) 58 && (List.range (if Nat.ble m 11 then m - 2 else 1)).all (fun g => (Nat.blt 0 g && Nat.blt g 5) || natL P (hd2 (max y (Zx F (Zx W y (g + 2)) (m - 3))) (ebz F hv y (Zx W y (g + 2)) m E0 p wB ob) (e2z F hv y (Zx W y (g + 2)) m k) (Zx F (Zx W y (g + 2)))) (cv + cd) m Bd)))
section PmWe
variable {t0 s2 X7 y : Nat} {n1 h eb e2 : Nat → Nat} {B C β' : Ty} {Γ0 : List Ty}
theorem BE2_onz (hn : NC t0 n1 s2 h) (h7 : y ≤ X7) : ∀ {Γ : List Ty}, (∀ j, j < Γ.length → vw (onz t0 n1 s2 h Γ) j ≤ y) → (∀ b ∈ Γ, nsch b = true ∨ ∀ z, y + flv b * z ≤ eb z) → BE2 t0 n1 s2 h X7 eb e2 Γ (onz t0 n1 s2 h Γ)
  | [], _, _ => trivial
  | b :: Γ, hv, hp => by
    have l1 := onz_len t0 n1 s2 h Γ
    have q := hv Γ.length (by rw [List.length_cons]; omega)
    have e : vw (onz t0 n1 s2 h (b :: Γ)) Γ.length = h (nz t0 n1 s2 h (onz t0 n1 s2 h Γ) b) := by
      show vw (h (nz t0 n1 s2 h (onz t0 n1 s2 h Γ) b) :: onz t0 n1 s2 h Γ) Γ.length = _
      rw [vw_cons, l1, if_pos rfl]
    rw [e] at q
    have q := Nat.le_trans (hn.2.2.1 _) q
    refine ⟨Or.inl ⟨Nat.le_trans q h7, (hp b (List.mem_cons_self ..)).imp id (fun c z => Nat.le_trans (Nat.add_le_add_right q _) (c z))⟩, BE2_onz hn h7 (fun j hj => ?_) (fun c hc => hp c (List.mem_cons_of_mem _ hc))⟩
    have q2 := hv j (by rw [List.length_cons]; omega)
    have e2' : vw (onz t0 n1 s2 h (b :: Γ)) j = vw (onz t0 n1 s2 h Γ) j := by
      show vw (h (nz t0 n1 s2 h (onz t0 n1 s2 h Γ) b) :: onz t0 n1 s2 h Γ) j = _
      rw [vw_cons, l1, if_neg (by omega)]
    rw [e2'] at q2
    exact q2
theorem BE2_cx (hn : NC t0 n1 s2 h) (h7 : y ≤ X7) (hA : HS2 t0 n1 s2 h eb e2 (onz t0 n1 s2 h Γ0) (tAll B C)) (hp0 : ∀ b ∈ Γ0, nsch b = true ∨ ∀ z, y + flv b * z ≤ eb z) : ∀ (Δ1 : List Ty), (∀ j, j < (cxs Δ1 Γ0 β').length → vw (onz t0 n1 s2 h (cxs Δ1 Γ0 β')) j ≤ y) → (∀ b ∈ Δ1, nsch b = true ∨ ∀ z, y + flv b * z ≤ eb z) → BE2 t0 n1 s2 h X7 eb e2 (cxs Δ1 Γ0 (tAll B C)) (onz t0 n1 s2 h (cxs Δ1 Γ0 β'))
  | [], hv, _ => by
    refine ⟨Or.inr hA, BE2_onz hn h7 (fun j hj => ?_) hp0⟩
    have l1 := onz_len t0 n1 s2 h Γ0
    have q2 := hv j (by rw [cxs_len]; omega)
    have e2' : vw (onz t0 n1 s2 h (cxs [] Γ0 β')) j = vw (onz t0 n1 s2 h Γ0) j := by
      show vw (h (nz t0 n1 s2 h (onz t0 n1 s2 h Γ0) β') :: onz t0 n1 s2 h Γ0) j = _
      rw [vw_cons, l1, if_neg (by omega)]
    rw [e2'] at q2
    exact q2
  | a :: Δ1, hv, hp => by
    have l1 := onz_len t0 n1 s2 h (cxs Δ1 Γ0 β')
    have q := hv (cxs Δ1 Γ0 β').length (by show _ < (a :: cxs Δ1 Γ0 β').length; rw [List.length_cons]; omega)
    have e : vw (onz t0 n1 s2 h (cxs (a :: Δ1) Γ0 β')) (cxs Δ1 Γ0 β').length = h (nz t0 n1 s2 h (onz t0 n1 s2 h (cxs Δ1 Γ0 β')) a) := by
      show vw (h (nz t0 n1 s2 h (onz t0 n1 s2 h (cxs Δ1 Γ0 β')) a) :: onz t0 n1 s2 h (cxs Δ1 Γ0 β')) (cxs Δ1 Γ0 β').length = _
      rw [vw_cons, l1, if_pos rfl]
    rw [e] at q
    have q := Nat.le_trans (hn.2.2.1 _) q
    refine ⟨Or.inl ⟨Nat.le_trans q h7, (hp a (List.mem_cons_self ..)).imp id (fun c z => Nat.le_trans (Nat.add_le_add_right q _) (c z))⟩, BE2_cx hn h7 hA hp0 Δ1 (fun j hj => ?_) (fun c hc => hp c (List.mem_cons_of_mem _ hc))⟩
    have q2 := hv j (by show j < (a :: cxs Δ1 Γ0 β').length; rw [List.length_cons]; omega)
    have e2' : vw (onz t0 n1 s2 h (cxs (a :: Δ1) Γ0 β')) j = vw (onz t0 n1 s2 h (cxs Δ1 Γ0 β')) j := by
      show vw (h (nz t0 n1 s2 h (onz t0 n1 s2 h (cxs Δ1 Γ0 β')) a) :: onz t0 n1 s2 h (cxs Δ1 Γ0 β')) j = _
      rw [vw_cons, l1, if_neg (by omega)]
    rw [e2'] at q2
    exact q2
end PmWe
section PmWf
variable {t0 fn s2 hv r0 r1 r2 r3 x0 : Nat} {n1 h : Nat → Nat} {P Q : List (List Nat)} {F G W : FrT} {X : List Nat} {B C β' : Ty} {Γ0 : List Ty}
/-- values at most y, the long scheme an E0 + p * z -/
theorem gen_fin4 (hn : NC t0 n1 s2 h) (hm : ∀ y y', y ≤ y' → h y ≤ h y') (hh : ∀ y δ, h (y + δ) ≤ h y + δ) (T : TBs 58 t0 fn s2 hv r0 r1 r2 r3 x0 n1 h P Q F G X) (hx : PXk 58 P F X fn s2 r1 = true) (hFm : frm F = true) (hgr : fgc F W hv = true) (hW : (1, 0) ∈ frg W 0) (hWm : fgm W = true) (h21 : r2 ≤ r1) (h32 : r3 ≤ r2) (H1 : ∀ y, h y ≤ hv + max 1 y) {f : Nat} {t S : Ty} {Δ1 : List Ty} {Δ : List (Nat × Ty × Nat)} {ob cd wB Bd y E0 p cv k : Nat} (w : TWf f (cxs Δ1 Γ0 (tAll B C)).length (Δ.map (fun a => a.1)) t) (he : TE (cxs Δ1 Γ0 (tAll B C)) Δ) (co : COk f t 0) (hg : hasq f t = true → g3k f t + 3 ≤ mch t ∧ (mch t ≤ 11 ∨ g3k f t = 0)) (hm3 : 3 ≤ mch t) (hm17 : mch t ≤ 17) (hb0 : ∀ b ∈ Γ0, nsch b = true ∨ flv b ≤ ob) (hb1 : ∀ b ∈ Δ1, nsch b = true ∨ flv b ≤ ob) (hdc : dch Δ ≤ cd) (hcd : 2 ≤ cd) (y01 : x0 ≤ y) (hw : ∀ j, j < (cxs Δ1 Γ0 β').length → vw (onz t0 n1 s2 h (cxs Δ1 Γ0 β')) j ≤ y) (go : ∀ E Z, AQh t0 n1 s2 h E Z f t [] (onz t0 n1 s2 h (cxs Δ1 Γ0 β')) → GOk t0 n1 s2 h E f t [] (onz t0 n1 s2 h (cxs Δ1 Γ0 β')) (cxs Δ1 Γ0 (tAll B C)) Δ) (vZ : ∀ z, nz t0 n1 s2 h (hzx h z (nz t0 n1 s2 h (onz t0 n1 s2 h Γ0) B) :: onz t0 n1 s2 h Γ0) C ≤ E0 + p * max z wB) (hwB : h (nz t0 n1 s2 h (onz t0 n1 s2 h Γ0) B) ≤ wB) (hk : tch C ≤ k) (hk2 : k ≤ 50) (R1 : smZ1 P F W X hv E0 p wB ob k y cv cd (mch t) Bd = true) (hS : tyF f t (cxs Δ1 Γ0 (tAll B C)) Δ = .inr S) : nz t0 n1 s2 h (onz t0 n1 s2 h (cxs Δ1 Γ0 β')) S ≤ Bd := by
  unfold smZ1 at R1
  rw [Bool.and_eq_true, Bool.and_eq_true, Bool.and_eq_true] at R1
  obtain ⟨lk, n1', n2', n4'⟩ := R1
  have lk := Nat.le_of_ble_eq_true lk
  have n1' := Nat.le_of_ble_eq_true n1'
  have n2' := Nat.le_of_ble_eq_true n2'
  have hm1 : mch t ≤ 56 := by omega
  obtain ⟨oc0, oA⟩ := okc_low Δ1 he.1
  have oC := (ok_all.mp oA).2
  have l0 := onz_len t0 n1 s2 h Γ0
  obtain ⟨g, hg1, hg3, hg0, hg4⟩ : ∃ g, (hasq f t = true → 0 + g3k f t ≤ g) ∧ g + 3 ≤ mch t ∧ (g = 0 ∨ 5 ≤ g) ∧ (mch t ≤ 11 ∨ g = 0) := by
    by_cases c : hasq f t = true
    · exact ⟨g3k f t, fun _ => by omega, (hg c).1, g3k_z f t _ _ w, (hg c).2⟩
    · exact ⟨0, fun c' => absurd c' c, by omega, Or.inl rfl, Or.inr rfl⟩
  have n5 := rng_all n4' (i := g) (by
    by_cases c : Nat.ble (mch t) 11 = true
    · rw [if_pos c]; omega
    · rw [if_neg c]
      have c2 : ¬ mch t ≤ 11 := fun e => c (Nat.ble_eq_true_of_le e)
      omega)
  rw [Bool.or_eq_true, Bool.and_eq_true] at n5
  have n6 : natL P (hd2 (max y (Zx F (Zx W y (g + 2)) (mch t - 3))) (ebz F hv y (Zx W y (g + 2)) (mch t) E0 p wB ob) (e2z F hv y (Zx W y (g + 2)) (mch t) k) (Zx F (Zx W y (g + 2)))) (cv + cd) (mch t) Bd = true := by
    rcases n5 with ⟨c1, c2⟩ | c
    · have c1 : Nat.ble (0 + 1) g = true := c1
      have c2 : Nat.ble (g + 1) 5 = true := c2
      have c1 := Nat.le_of_ble_eq_true c1
      have c2 := Nat.le_of_ble_eq_true c2
      omega
    · exact c
  clear n4' n5
  have hyg : ∀ r, r ≤ g → ∀ e ∈ frg W r, e.2 + e.1 * y ≤ Zx W y (g + 2) := by
    intro r hr e he'
    obtain ⟨e', h1, h2, h3⟩ := fgm_le hWm hr (by omega) he'
    have := Nat.mul_le_mul_right y h2
    exact Nat.le_trans (by omega) (Zx_mem (frg W g) e' h1)
  have yy : y ≤ Zx W y (g + 2) := by
    have := hyg 0 (Nat.zero_le _) (1, 0) hW
    simp only at this
    omega
  generalize Zx W y (g + 2) = yg at *
  have hω2 : ∀ j, j < (onz t0 n1 s2 h (cxs Δ1 Γ0 β')).length → vw (onz t0 n1 s2 h (cxs Δ1 Γ0 β')) j ≤ y := fun j hj => hw j (by rw [onz_len] at hj; exact hj)
  have l1 : (onz t0 n1 s2 h (cxs Δ1 Γ0 β')).length = (cxs Δ1 Γ0 (tAll B C)).length := by rw [onz_len, cxs_ll β' (tAll B C)]
  have hSc : ∀ (A : Ty) (ω : List Nat), hd A = 2 → ok ω.length A = true → tch A + 2 ≤ mch t → (∀ j, j < ω.length → vw ω j ≤ yg) → HS2 t0 n1 s2 h (ebz F hv y yg (mch t) E0 p wB ob) (e2z F hv y yg (mch t) k) ω A := by
    intro A ω h2 o ht hw
    rcases ok_cases o with rfl | ⟨j, hj, rfl⟩ | ⟨a, b, rfl, ha, hb⟩ | ⟨a, b, rfl, ha, hb⟩ | ⟨c, u, v, w, hc, rfl, h0, h1, h2'⟩
    · exact absurd h2 (by decide)
    · rw [hd_var] at h2; omega
    · rw [hd_fun] at h2; omega
    · rw [tch_all] at ht
      have pa := tch_pos ha
      have pc := tch_pos hb
      have q1 := Zx_le T ha (by omega) (Nat.le_trans y01 yy) hw
      have q2 := Zx_ms hFm (x := yg) (s := tch a + 2) (s' := mch t - 5) (by omega) (by omega)
      have q3 := H1 (nz t0 n1 s2 h ω a)
      have vals : ∀ z j, j < (hzx h z (nz t0 n1 s2 h ω a) :: ω).length → vw (hzx h z (nz t0 n1 s2 h ω a) :: ω) j ≤ max (max z yg) (hv + max 1 (Zx F yg (mch t - 5))) := by
        intro z j hj
        rw [vw_cons]
        by_cases e : j = ω.length
        · rw [if_pos e]
          unfold hzx
          omega
        · rw [if_neg e]
          have := hw j (by rw [List.length_cons] at hj; omega)
          omega
      refine ⟨a, b, rfl, fun z => ?_, fun z => ?_⟩
      · have q4 := Zx_le T (x := max (max z yg) (hv + max 1 (Zx F yg (mch t - 5)))) (ω := hzx h z (nz t0 n1 s2 h ω a) :: ω) (A := b) (by rw [List.length_cons]; exact hb) (by omega) (by omega) (vals z)
        have q5 := Zx_ms hFm (x := max (max z yg) (hv + max 1 (Zx F yg (mch t - 5)))) (s := tch b + 2) (s' := mch t - 5) (by omega) (by omega)
        unfold ebz
        exact Nat.le_trans q4 (Nat.le_trans q5 (Nat.le_max_right _ _))
      · have q4 := Zx_leh T (x := max (max z yg) (hv + max 1 (Zx F yg (mch t - 5)))) (z := z) (ω := hzx h z (nz t0 n1 s2 h ω a) :: ω) (A := b) (by rw [List.length_cons]; exact hb) (by omega) (by omega) (by omega) (vals z)
        have q5 := Zx_ms hFm (x := max (max z yg) (hv + max 1 (Zx F yg (mch t - 5)))) (s := tch b + 2) (s' := mch t - 5) (by omega) (by omega)
        unfold e2z
        exact Nat.le_trans q4 (Nat.le_trans q5 (Nat.le_max_right _ _))
    · rw [hd_rec] at h2; omega
  have hZ : ∀ s s', s ≤ s' → (fun s => Zx F yg (min s 58)) s ≤ (fun s => Zx F yg (min s 58)) s' := fun s s' hs => Zx_ms hFm (x := yg) (s := min s 58) (s' := min s' 58) (by omega) (by omega)
  have hA : ∀ (A : Ty) (ω : List Nat), ok ω.length A = true → tch A + 2 ≤ mch t → (∀ j, j < ω.length → vw ω j ≤ yg) → (∀ ρ, ρ ≠ [] → vz t0 n1 s2 h (E2 (max y (Zx F yg (mch t - 3))) (ebz F hv y yg (mch t) E0 p wB ob) (e2z F hv y yg (mch t) k)) A ρ ω ≤ E2 (max y (Zx F yg (mch t - 3))) (ebz F hv y yg (mch t) E0 p wB ob) (e2z F hv y yg (mch t) k) ρ) ∧ nz t0 n1 s2 h ω A ≤ (fun s => Zx F yg (min s 58)) (tch A + 2) := by
    intro A ω o ht hw'
    refine ⟨arg_2 ebz_mono e2z_mono hm T (Nat.le_trans y01 yy) hm1 (fun s hs => Nat.le_trans (Zx_ms hFm (x := yg) (s := s) (s' := mch t - 3) (by omega) (by omega)) (Nat.le_max_right _ _)) hSc _ A _ (Nat.le_refl _) o ht hw', ?_⟩
    show nz t0 n1 s2 h ω A ≤ Zx F yg (min (tch A + 2) 58)
    rw [Nat.min_eq_left (by omega)]
    exact Zx_le T o (by omega) (Nat.le_trans y01 yy) hw'
  have aq := AH_x (Z := fun s => Zx F yg (min s 58)) (E := E2 (max y (Zx F yg (mch t - 3))) (ebz F hv y yg (mch t) E0 p wB ob) (e2z F hv y yg (mch t) k)) T.2.2.2.2.2.2.2 hn hm T hgr y01 (g := g) (yg := yg) (m0 := mch t) (by omega) hyg hA f t [] (onz t0 n1 s2 h (cxs Δ1 Γ0 β')) (cxs Δ1 Γ0 (tAll B C)) _ 0 (1, 0) w l1 hW (Nat.le_refl _) (fun j hj => by
    have := hω2 j hj
    show _ ≤ 0 + 1 * y
    omega) (fun _ => Nat.zero_le _) hg1 (Nat.le_refl _)
  have hA2 : HS2 t0 n1 s2 h (ebz F hv y yg (mch t) E0 p wB ob) (e2z F hv y yg (mch t) k) (onz t0 n1 s2 h Γ0) (tAll B C) := by
    refine ⟨B, C, rfl, fun z => ?_, fun z => ?_⟩
    · refine Nat.le_trans (vZ z) ?_
      unfold ebz
      exact Nat.le_trans (Nat.le_max_left _ _) (Nat.le_max_left _ _)
    · have q4 := Zx_leh T (x := max z y) (z := z) (ω := hzx h z (nz t0 n1 s2 h (onz t0 n1 s2 h Γ0) B) :: onz t0 n1 s2 h Γ0) (A := C) (by rw [List.length_cons, l0]; exact oC) (by omega) (by omega) (by omega) (fun j hj => by
        rw [vw_cons]
        by_cases e : j = (onz t0 n1 s2 h Γ0).length
        · rw [if_pos e]
          unfold hzx
          omega
        · rw [if_neg e]
          rw [List.length_cons] at hj
          have q := onz_low (t0 := t0) (n1 := n1) (s2 := s2) (h := h) (Γ0 := Γ0) (β := β') Δ1 (j := j) (by rw [l0] at hj e; omega)
          have q2 := hw j (by rw [cxs_len]; rw [l0] at hj e; omega)
          rw [q] at q2
          omega)
      have q5 := Zx_ms hFm (x := max z y) (s := tch C + 2) (s' := k + 2) (by omega) (by omega)
      unfold e2z
      exact Nat.le_trans q4 (Nat.le_trans q5 (Nat.le_max_left _ _))
  have bg := gen_BG2 ebz_mono e2z_mono hZ hm hh T hx h21 h32 w he co hS hdc hcd n2' l1 aq (go _ _ aq) (fun j hj => Nat.le_trans (hω2 j hj) lk) (BE2_cx (β' := β') hn (Nat.le_max_left _ _) hA2 (fun b hb => (hb0 b hb).imp id (fun c z => by have := Nat.mul_le_mul_right z c; unfold ebz; omega)) Δ1 hw (fun b hb => (hb1 b hb).imp id (fun c z => by have := Nat.mul_le_mul_right z c; unfold ebz; omega)))
  refine natL_le n6 hm17 (bg.hdc (fun s hs => ?_))
  unfold hd2
  show (if s < 5 then max _ (ebz F hv y yg (mch t) E0 p wB ob (Zx F yg (min s 58))) else max (max _ (ebz F hv y yg (mch t) E0 p wB ob (Zx F yg (min s 58)))) (e2z F hv y yg (mch t) k (Zx F yg (min (s - 2) 58)))) = _
  rw [Nat.min_eq_left (show s ≤ 58 by omega), Nat.min_eq_left (show s - 2 ≤ 58 by omega)]
end PmWf
