/-! SCHEMES ELSEWHERE: counted by how often a body names its own variable. -/
section PmHp
variable {t0 s2 : Nat} {n1 h : Nat → Nat}
/-- values raised: each variable as often as it counts -/
theorem nz_rse (hm : ∀ y y', y ≤ y' → h y ≤ h y') (hh : ∀ y δ, h (y + δ) ≤ h y + δ) : ∀ (f : Nat) (t : Ty) (ω ω' : List Nat) (D : Nat → Nat), (flat t).length ≤ f → ok ω.length t = true → ω'.length = ω.length → (∀ j, j < ω.length → vw ω' j ≤ vw ω j + D j) → nz t0 n1 s2 h ω' t ≤ nz t0 n1 s2 h ω t + sms ω.length (fun j => xf ω.length j t * D j)
  | 0, t, ω, _, _, hf, o, _, _ => by have := flat_pos o; omega
  | f + 1, t, ω, ω', D, hf, o, le, hw => by
    rcases ok_cases o with rfl | ⟨j, hj, rfl⟩ | ⟨a, c, rfl, ha, hb⟩ | ⟨a, c, rfl, ha, hb⟩ | ⟨m, x, y, z, hm', rfl, h0, h1, h2⟩
    · rw [nz_top, nz_top]; omega
    · have q := sms_at (g := fun i => xf ω.length i (tVar j) * D i) hj
      rw [nz_var, nz_var]
      have e : xf ω.length j (tVar j) * D j = D j := by rw [xf_var, if_pos rfl, Nat.one_mul]
      have q : xf ω.length j (tVar j) * D j ≤ sms ω.length (fun i => xf ω.length i (tVar j) * D i) := q
      have := hw j hj
      omega
    · rw [flat_fun, List.length_cons, List.length_append] at hf
      have q1 := nz_rse hm hh f a ω ω' D (by omega) ha le hw
      have q2 := nz_rse hm hh f c ω ω' D (by omega) hb le hw
      rw [nz_fun, nz_fun, show (fun j => xf ω.length j (tFun a c) * D j) = fun j => xf ω.length j a * D j + xf ω.length j c * D j from funext (fun j => by rw [xf_fun, Nat.add_mul]), sms_add]
      omega
    · rw [flat_all, List.length_cons, List.length_append] at hf
      have q1 := nz_rse hm hh f a ω ω' D (by omega) ha le hw
      rw [nz_all, nz_all]
      generalize eS : sms ω.length (fun j => xf ω.length j a * D j) = Sa at *
      have hv : h (nz t0 n1 s2 h ω' a) ≤ h (nz t0 n1 s2 h ω a) + Sa := Nat.le_trans (hm _ _ q1) (hh _ _)
      generalize h (nz t0 n1 s2 h ω' a) = v' at *
      generalize h (nz t0 n1 s2 h ω a) = v at *
      have q2 := nz_rse hm hh f c (v :: ω) (v' :: ω') (fun j => if j = ω.length then Sa else D j) (by omega) (by rw [List.length_cons]; exact hb) (by rw [List.length_cons, List.length_cons, le]) (fun j hj => by
        rw [vw_cons, vw_cons, le]
        by_cases e : j = ω.length
        · rw [if_pos e, if_pos e, if_pos e]; exact hv
        · rw [if_neg e, if_neg e, if_neg e]
          exact hw j (by rw [List.length_cons] at hj; omega))
      rw [List.length_cons] at q2
      have e1 : sms (ω.length + 1) (fun j => xf (ω.length + 1) j c * (if j = ω.length then Sa else D j)) ≤ sms ω.length (fun j => xf (ω.length + 1) j c * D j) + xf (ω.length + 1) ω.length c * Sa := by
        show sms ω.length (fun j => xf (ω.length + 1) j c * (if j = ω.length then Sa else D j)) + xf (ω.length + 1) ω.length c * (if ω.length = ω.length then Sa else D ω.length) ≤ _
        rw [if_pos rfl]
        refine Nat.add_le_add_right (sms_le (fun j hj => ?_)) _
        rw [if_neg (by omega)]
        exact Nat.le_refl _
      have e3 : sms ω.length (fun j => xf ω.length j (tAll a c) * D j) = sms ω.length (fun j => xf (ω.length + 1) j c * D j) + xf (ω.length + 1) ω.length c * sms ω.length (fun j => xf ω.length j a * D j) := by
        rw [show (fun j => xf ω.length j (tAll a c) * D j) = fun j => xf (ω.length + 1) j c * D j + xf (ω.length + 1) ω.length c * (xf ω.length j a * D j) from funext (fun j => by rw [xf_all, Nat.add_mul, Nat.mul_assoc]), sms_add, sms_mul]
      rw [e3, eS]
      omega
    · rw [flat_rec, List.length_cons, List.length_append, List.length_append] at hf
      have key : ∀ (i : Nat) (p : Ty), (flat p).length ≤ f → okl ω.length m i p → nz t0 n1 s2 h ω' p ≤ nz t0 n1 s2 h ω p + sms ω.length (fun j => xf ω.length j p * D j) := by
        intro i p hp ho
        unfold okl at ho
        by_cases hb : bit m i = true
        · rw [if_pos hb] at ho
          exact nz_rse hm hh f p ω ω' D hp ho le hw
        · rw [if_neg hb] at ho
          rw [ho, nz_nil]; exact Nat.zero_le _
      have q0 := key 0 x (by omega) h0
      have q1 := key 1 y (by omega) h1
      have q2 := key 2 z (by omega) h2
      rw [nz_rec, nz_rec, show (fun j => xf ω.length j (tRec m x y z) * D j) = fun j => xf ω.length j x * D j + (xf ω.length j y * D j + xf ω.length j z * D j) from funext (fun j => by rw [xf_rec, Nat.add_mul, Nat.add_mul]), sms_add, sms_add]
      omega
/-- a scheme by an argument worth z -/
theorem sch_rse (hm : ∀ y y', y ≤ y' → h y ≤ h y') (hh : ∀ y δ, h (y + δ) ≤ h y + δ) {B C : Ty} {ω : List Nat} (o : ok ω.length (tAll B C) = true) (z : Nat) : nz t0 n1 s2 h (hzx h z (nz t0 n1 s2 h ω B) :: ω) C ≤ nz t0 n1 s2 h ω (tAll B C) + xf (ω.length + 1) ω.length C * z := by
  have oC := (ok_all.mp o).2
  have q := nz_rse (t0 := t0) (n1 := n1) (s2 := s2) hm hh _ C (h (nz t0 n1 s2 h ω B) :: ω) (hzx h z (nz t0 n1 s2 h ω B) :: ω) (fun j => if j = ω.length then z else 0) (Nat.le_refl _) (by rw [List.length_cons]; exact oC) (by rw [List.length_cons, List.length_cons]) (fun j hj => by
    rw [vw_cons, vw_cons]
    by_cases e : j = ω.length
    · rw [if_pos e, if_pos e, if_pos e]
      unfold hzx
      omega
    · rw [if_neg e, if_neg e, if_neg e]
      exact Nat.le_refl _)
  rw [List.length_cons] at q
  have e1 : sms (ω.length + 1) (fun j => xf (ω.length + 1) j C * (if j = ω.length then z else 0)) = xf (ω.length + 1) ω.length C * z := by
    show sms ω.length (fun j => xf (ω.length + 1) j C * (if j = ω.length then z else 0)) + xf (ω.length + 1) ω.length C * (if ω.length = ω.length then z else 0) = _
    rw [if_pos rfl]
    have e2 : sms ω.length (fun j => xf (ω.length + 1) j C * (if j = ω.length then z else 0)) ≤ sms ω.length (fun _ => 0) := sms_le (fun j hj => by
      rw [if_neg (by omega)]
      exact Nat.le_refl _)
    rw [sms_zero] at e2
    omega
  rw [e1] at q
  rw [nz_all]
  omega
theorem xf_lx {C : Ty} {d : Nat} (o : ok (d + 1) C = true) (k40 : tch C ≤ 40) : xf (d + 1) d C ≤ lmx xr1 (tch C) := by
  obtain ⟨v, hv, f1, -⟩ := xr_form (t0 := 0) (n1 := fun _ => 2) xr1_ok (by decide) (fun m hm => by rcases (show m = 0 ∨ m = 1 ∨ m = 2 ∨ m = 3 ∨ m = 4 ∨ m = 5 ∨ m = 6 ∨ m = 7 by omega) with rfl | rfl | rfl | rfl | rfl | rfl | rfl | rfl <;> decide) _ C (d + 1) (Nat.le_refl _) o k40
  have q := lmx_ge xr1 (tch_pos o) v hv
  rw [xt_xo] at f1
  omega
end PmHp
/-- schemes that operations reach have bodies with at most ob leaves -/
def OBs (ob : Nat) (a : Ty) : Prop := IS2 (fun s => ∀ B C, s = tAll B C → tch C ≤ 40 ∧ lmx xr1 (tch C) ≤ ob ∧ lmx fr1 (tch C) ≤ ob) a
theorem IS2_sch {P Q : Ty → Prop} : ∀ (f d : Nat) (b : Ty), (flat b).length ≤ f → ok d b = true → (∀ B C, ok d (tAll B C) = true → (∀ (t0 : Nat) (n1 : Nat → Nat) (s2 : Nat) (h : Nat → Nat) (ω : List Nat), nz t0 n1 s2 h ω (tAll B C) ≤ nz t0 n1 s2 h ω b) → P (tAll B C) → Q (tAll B C)) → IS2 P b → IS2 Q b
  | 0, d, b, hf, o, _, _ => by have := flat_pos o; omega
  | f + 1, d, b, hf, o, hq, hi => by
    rcases ok_cases o with rfl | ⟨j, hj, rfl⟩ | ⟨a, c, rfl, ha, hb⟩ | ⟨a, c, rfl, ha, hb⟩ | ⟨m, x, y, z, hm, rfl, h0, h1, h2⟩
    · exact IS2_top
    · exact IS2_var j
    · rw [flat_fun, List.length_cons, List.length_append] at hf
      refine IS2_funI (IS2_sch f d c (by omega) hb (fun B C o1 n2 p => hq B C o1 (fun t0 n1 s2 h ω => by have := n2 t0 n1 s2 h ω; rw [nz_fun]; omega) p) (IS2_fun hi))
    · exact IS2_allI (hq _ _ o (fun _ _ _ _ _ => Nat.le_refl _) (IS2_all hi))
    · rw [flat_rec, List.length_cons, List.length_append, List.length_append] at hf
      obtain ⟨i0, i1, i2⟩ := IS2_rec hi
      have key : ∀ (i : Nat) (u : Ty), okl d m i u → (flat u).length ≤ f → (∀ (t0 : Nat) (n1 : Nat → Nat) (s2 : Nat) (h : Nat → Nat) (ω : List Nat), nz t0 n1 s2 h ω u ≤ nz t0 n1 s2 h ω x + (nz t0 n1 s2 h ω y + nz t0 n1 s2 h ω z)) → IS2 P u → IS2 Q u := by
        intro i u ou lu nu iu
        unfold okl at ou
        by_cases hb : bit m i = true
        · rw [if_pos hb] at ou
          exact IS2_sch f d u lu ou (fun B C o1 n2 p => hq B C o1 (fun t0 n1 s2 h ω => by have a1 := n2 t0 n1 s2 h ω; have a2 := nu t0 n1 s2 h ω; rw [nz_rec]; omega) p) iu
        · rw [if_neg hb] at ou
          rw [ou]; exact IS2_nil
      exact IS2_recI ⟨key 0 x h0 (by omega) (fun _ _ _ _ _ => by omega) i0, key 1 y h1 (by omega) (fun _ _ _ _ _ => by omega) i1, key 2 z h2 (by omega) (fun _ _ _ _ _ => by omega) i2⟩
section PmHq
variable {t0 fn s2 hv r0 r1 r2 r3 x0 : Nat} {n1 h : Nat → Nat} {P Q : List (List Nat)} {F G W : FrT} {X : List Nat}
theorem HE_sfy {X7 y : Nat} {eb e2 : Nat → Nat} (he : ∀ z z', z ≤ z' → eb z ≤ eb z') (he2 : ∀ z z', z ≤ z' → e2 z ≤ e2 z') (hm : ∀ y y', y ≤ y' → h y ≤ h y') (hh : ∀ y δ, h (y + δ) ≤ h y + δ) (hn : NC t0 n1 s2 h) (h7 : y ≤ X7) : ∀ {Γ : List Ty}, okc Γ → (∀ j, j < Γ.length → vw (onz t0 n1 s2 h Γ) j ≤ y) → (∀ (Δ' : List Ty) (b' : Ty) (Γ' : List Ty), Γ = Δ' ++ b' :: Γ' → ok Γ'.length b' = true → (∀ j, j < Γ'.length → vw (onz t0 n1 s2 h Γ') j ≤ y) → nz t0 n1 s2 h (onz t0 n1 s2 h Γ') b' ≤ y → nsch b' = true ∨ (∀ z, nz t0 n1 s2 h (onz t0 n1 s2 h Γ') b' + flv b' * z ≤ eb z) ∨ IS2 (fun s => HS2 t0 n1 s2 h eb e2 (onz t0 n1 s2 h Γ') s ∨ ∀ z, nz t0 n1 s2 h (onz t0 n1 s2 h Γ') s + flv s * z ≤ eb z) b') → HEk t0 n1 s2 h (E2 X7 eb e2) Γ (onz t0 n1 s2 h Γ)
  | [], _, _, _ => trivial
  | b :: Γ, hc, hv, hp => by
    have l1 := onz_len t0 n1 s2 h Γ
    have q := hv Γ.length (by rw [List.length_cons]; omega)
    have e : vw (onz t0 n1 s2 h (b :: Γ)) Γ.length = h (nz t0 n1 s2 h (onz t0 n1 s2 h Γ) b) := by
      show vw (h (nz t0 n1 s2 h (onz t0 n1 s2 h Γ) b) :: onz t0 n1 s2 h Γ) Γ.length = _
      rw [vw_cons, l1, if_pos rfl]
    rw [e] at q
    have q := Nat.le_trans (hn.2.2.1 _) q
    have ob : ok (onz t0 n1 s2 h Γ).length b = true := by rw [l1]; exact hc.1
    have hv2 : ∀ j, j < Γ.length → vw (onz t0 n1 s2 h Γ) j ≤ y := by
      intro j hj
      have q2 := hv j (by rw [List.length_cons]; omega)
      have e2' : vw (onz t0 n1 s2 h (b :: Γ)) j = vw (onz t0 n1 s2 h Γ) j := by
        show vw (h (nz t0 n1 s2 h (onz t0 n1 s2 h Γ) b) :: onz t0 n1 s2 h Γ) j = _
        rw [vw_cons, l1, if_neg (by omega)]
      rw [← e2']
      exact q2
    refine ⟨fun ρ hρ => ?_, HE_sfy he he2 hm hh hn h7 hc.2 hv2 (fun Δ' b' Γ' e' => hp (b :: Δ') b' Γ' (by rw [e']; rfl))⟩
    · rcases hp [] b Γ rfl hc.1 hv2 q with h2 | h2 | h2
      · exact vz_l2 he he2 hm hh ob (Nat.le_trans q h7) (Or.inl h2) ρ
      · exact vz_l2 he he2 hm hh ob (Nat.le_trans q h7) (Or.inr h2) ρ
      · exact vz_i2 he he2 hm hh _ b _ ρ (Nat.le_refl _) ob (Nat.le_trans q h7) h2 hρ
theorem gen_zj (hn : NC t0 n1 s2 h) (hm : ∀ y y', y ≤ y' → h y ≤ h y') (hh : ∀ y δ, h (y + δ) ≤ h y + δ) (T : TBs 58 t0 fn s2 hv r0 r1 r2 r3 x0 n1 h P Q F G X) (hFm : frm F = true) (hgr : fgc F W hv = true) (hWm : fgm W = true) (hW1 : fg1s W = true) (hW : (1, 0) ∈ frg W 0) (H1 : ∀ y, h y ≤ hv + max 1 y) (s21 : 1 ≤ s2) {f : Nat} {t S b b' B C : Ty} {Γ0 Δ1 : List Ty} {Δ : List (Nat × Ty × Nat)} {un : Bool} {a5 ob cd Bd y1 κ wB : Nat} {v : Nat × Nat} (ds : DSp Γ0.length (tAll B C) b' b) (w : TWf f (cxs Δ1 Γ0 b).length (Δ.map (fun a => a.1)) t) (he : TE (cxs Δ1 Γ0 b) Δ) (cu : un = true ∨ COk f t 0) (hm30 : mch t ≤ 30) (hdc : dch Δ ≤ cd) (hcd : cd ≤ 56) (a55 : a5 ≤ 5) (ha5 : Δ ≠ [] → a5 = 0) (hb0 : ∀ a ∈ Γ0, OBs ob a) (hb1 : ∀ a ∈ Δ1, OBs ob a) (hbs : ∀ B' C', ok Γ0.length (tAll B' C') = true → tch C' ≤ tch C → tch (tAll B' C') + tch (tAll B C) + 5 ≤ tch b → tch C' ≤ 40 ∧ lmx xr1 (tch C') ≤ ob ∧ lmx fr1 (tch C') ≤ ob) (q38 : cch Δ1 ≤ 38) (q56 : cch Γ0 ≤ 56) (e1 : max x0 (X.getD (cch Γ0) 0) ≤ y1) (hκ : nz t0 n1 s2 h (onz t0 n1 s2 h Γ0) b' ≤ κ) (hwB : h (nz t0 n1 s2 h (onz t0 n1 s2 h Γ0) B) ≤ wB) (hv1 : xt (Γ0.length + 1) C ≤ v.1) (hv2 : xa t0 n1 s2 hv (Γ0.length + 1) C ≤ v.2) (go : ∀ E Z, AQh t0 n1 s2 h E Z f t [] (onz t0 n1 s2 h (cxs Δ1 Γ0 b)) → HEk t0 n1 s2 h E (cxs Δ1 Γ0 b) (onz t0 n1 s2 h (cxs Δ1 Γ0 b)) → GOk t0 n1 s2 h E f t [] (onz t0 n1 s2 h (cxs Δ1 Γ0 b)) (cxs Δ1 Γ0 b) Δ) (hT : ∀ p, p ≤ v.1 → ∀ u ∈ frg W (cch Δ1), ∃ s : T6, (TiD hv s2 κ wB y1 ob (tch C) p v u s ∧ ∃ w0 ∈ frg F s.2.2.2.2.2, ob + 1 ≤ w0.1) ∧ dpD un F W a5 hv fn s2 r0 r1 r2 r3 s.2.2.1 s.2.2.2.1 s.1 s.2.2.2.2.1 s.2.2.2.2.2 s.1 cd (mch t) ≤ Bd) (hS : tyF f t (cxs Δ1 Γ0 b) Δ = .inr S) : nz t0 n1 s2 h (onz t0 n1 s2 h (cxs Δ1 Γ0 b)) S ≤ Bd := by
  obtain ⟨oc0, oB⟩ := okc_low Δ1 he.1
  obtain ⟨ob', oσ, cσ, nσ, iσ⟩ := ds
  have oC := (ok_all.mp oσ).2
  have l0 := onz_len t0 n1 s2 h Γ0
  have l1 := onz_len t0 n1 s2 h (cxs Δ1 Γ0 b)
  have x01 : x0 ≤ y1 := Nat.le_trans (Nat.le_max_left _ _) e1
  have hω : ∀ j, j < (onz t0 n1 s2 h Γ0).length → vw (onz t0 n1 s2 h Γ0) j ≤ y1 := fun j hj => Nat.le_trans (onz_chars T.1 T.2.1 T.2.2.1 T.2.2.2.1 T.2.2.2.2.1 Γ0 oc0 q56 j (by rw [l0] at hj; exact hj)) (Nat.le_trans (Nat.le_max_right _ _) e1)
  rw [xt_xo] at hv1
  have vC : ∀ z, nz t0 n1 s2 h (z :: onz t0 n1 s2 h Γ0) C ≤ v.2 + (v.1 - xf (Γ0.length + 1) Γ0.length C) * y1 + xf (Γ0.length + 1) Γ0.length C * z := by
    intro z
    have q := nz_xo (t0 := t0) (n1 := n1) (s2 := s2) H1 (t := C) (ω := onz t0 n1 s2 h Γ0) (z := z) (by rw [l0]; exact oC) hω
    rw [l0] at q
    have q2 := Nat.mul_le_mul_right y1 (show xo Γ0.length C ≤ v.1 - xf (Γ0.length + 1) Γ0.length C by omega)
    omega
  have hp : xf (Γ0.length + 1) Γ0.length C ≤ v.1 := by omega
  generalize xf (Γ0.length + 1) Γ0.length C = p at *
  have vA : nz t0 n1 s2 h (onz t0 n1 s2 h Γ0) (tAll B C) ≤ s2 + (v.2 + (v.1 - p) * y1 + p * wB) := by
    rw [nz_all]
    have q := vC (h (nz t0 n1 s2 h (onz t0 n1 s2 h Γ0) B))
    have q2 := Nat.mul_le_mul_left p hwB
    omega
  have vZ : ∀ z, nz t0 n1 s2 h (hzx h z (nz t0 n1 s2 h (onz t0 n1 s2 h Γ0) B) :: onz t0 n1 s2 h Γ0) C ≤ v.2 + (v.1 - p) * y1 + p * max z wB := by
    intro z
    have q := vC (hzx h z (nz t0 n1 s2 h (onz t0 n1 s2 h Γ0) B))
    have q2 : hzx h z (nz t0 n1 s2 h (onz t0 n1 s2 h Γ0) B) ≤ max z wB := by
      unfold hzx
      omega
    have q3 := Nat.mul_le_mul_left p q2
    omega
  have vb : nz t0 n1 s2 h (onz t0 n1 s2 h Γ0) b ≤ κ + (s2 + (v.2 + (v.1 - p) * y1 + p * wB)) := by
    have := nσ t0 n1 s2 h (onz t0 n1 s2 h Γ0)
    omega
  have EA1 : 1 ≤ κ + (s2 + (v.2 + (v.1 - p) * y1 + p * wB)) := by omega
  have h0' : ∀ j, j < (b :: Γ0).length → vw (onz t0 n1 s2 h (b :: Γ0)) j ≤ max y1 (hv + (κ + (s2 + (v.2 + (v.1 - p) * y1 + p * wB)))) := by
    intro j hj
    show vw (h (nz t0 n1 s2 h (onz t0 n1 s2 h Γ0) b) :: onz t0 n1 s2 h Γ0) j ≤ _
    rw [vw_cons, l0]
    by_cases e : j = Γ0.length
    · rw [if_pos e]
      have := H1 (nz t0 n1 s2 h (onz t0 n1 s2 h Γ0) b)
      omega
    · rw [if_neg e]
      rw [List.length_cons] at hj
      exact Nat.le_trans (hω j (by rw [l0]; omega)) (Nat.le_max_left _ _)
  obtain ⟨u, hu, u1, hw⟩ := onz_gr T hgr hW (Nat.le_trans x01 (Nat.le_max_left _ _)) h0' Δ1 he.1 q38
  obtain ⟨s, ⟨⟨k1, k2, k3, k4, k5, k6, k7⟩, k8⟩, R⟩ := hT p hp u hu
  have hw' : ∀ j, j < (cxs Δ1 Γ0 b).length → vw (onz t0 n1 s2 h (cxs Δ1 Γ0 b)) j ≤ s.1 := fun j hj => Nat.le_trans (hw j hj) k1
  have y01 : x0 ≤ s.1 := by
    have a1 := Nat.mul_le_mul_right (max y1 (hv + (κ + (s2 + (v.2 + (v.1 - p) * y1 + p * wB))))) u1
    have a2 := Nat.le_max_left y1 (hv + (κ + (s2 + (v.2 + (v.1 - p) * y1 + p * wB))))
    omega
  have hA2 : HS2 t0 n1 s2 h (ebw F W hv s.1 cd (mch t) s.2.2.1 s.2.2.2.1 s.1 s.2.2.2.2.1) (e2w F W hv s.1 cd (mch t) s.2.2.2.2.2) (onz t0 n1 s2 h Γ0) (tAll B C) := by
    refine ⟨B, C, rfl, fun z => ?_, fun z => ?_⟩
    · refine Nat.le_trans (vZ z) ?_
      have a1 : p * max z wB ≤ s.2.2.2.1 * max z s.1 := Nat.mul_le_mul k3 (by omega)
      unfold ebw
      exact le_mx (Or.inl (le_mx (Or.inl (by omega))))
    · have q4 := Zx_leh T (x := max z s.1) (z := z) (ω := hzx h z (nz t0 n1 s2 h (onz t0 n1 s2 h Γ0) B) :: onz t0 n1 s2 h Γ0) (A := C) (by rw [List.length_cons, l0]; exact oC) (by omega) (by omega) (by omega) (fun j hj => by
        rw [vw_cons]
        by_cases e : j = (onz t0 n1 s2 h Γ0).length
        · rw [if_pos e]
          unfold hzx
          omega
        · rw [if_neg e]
          rw [List.length_cons] at hj
          have q := onz_low (t0 := t0) (n1 := n1) (s2 := s2) (h := h) (Γ0 := Γ0) (β := b) Δ1 (j := j) (by rw [l0] at hj e; omega)
          have q2 := hw' j (by rw [cxs_len]; rw [l0] at hj e; omega)
          rw [q] at q2
          omega)
      have q5 := Zx_ms hFm (x := max z s.1) (s := tch C + 2) (s' := s.2.2.2.2.2 + 2) (by omega) (by omega)
      unfold e2w
      exact le_mx (Or.inl (Nat.le_trans q4 q5))
  have few : ∀ (Γ' : List Ty) (B' C' : Ty), ok Γ'.length (tAll B' C') = true → nz t0 n1 s2 h (onz t0 n1 s2 h Γ') (tAll B' C') ≤ s.1 → tch C' ≤ 40 → lmx xr1 (tch C') ≤ ob → lmx fr1 (tch C') ≤ ob → HS2 t0 n1 s2 h (ebw F W hv s.1 cd (mch t) s.2.2.1 s.2.2.2.1 s.1 s.2.2.2.2.1) (e2w F W hv s.1 cd (mch t) s.2.2.2.2.2) (onz t0 n1 s2 h Γ') (tAll B' C') := by
    intro Γ' B' C' o' q c1 c2 c3
    have l2 := onz_len t0 n1 s2 h Γ'
    have oC' := (ok_all.mp o').2
    refine ⟨B', C', rfl, fun z => ?_, fun z => ?_⟩
    · have a1 := sch_rse (t0 := t0) (n1 := n1) (s2 := s2) hm hh (B := B') (C := C') (ω := onz t0 n1 s2 h Γ') (by rw [l2]; exact o') z
      rw [l2] at a1
      have a2 := Nat.mul_le_mul_right z (Nat.le_trans (xf_lx oC' (by omega)) (Nat.le_trans c2 k4))
      unfold ebw
      omega
    · have q4 := nz_flv (t0 := t0) (n1 := n1) (s2 := s2) hm hh (z := z) _ C' (h (nz t0 n1 s2 h (onz t0 n1 s2 h Γ') B') :: onz t0 n1 s2 h Γ') (hzx h z (nz t0 n1 s2 h (onz t0 n1 s2 h Γ') B') :: onz t0 n1 s2 h Γ') z (Nat.le_refl _) (by rw [List.length_cons, List.length_cons]) (by rw [List.length_cons, l2]; exact oC') (Nat.le_refl _) (fun j hj => by
        rw [vw_cons, vw_cons]
        by_cases e : j = (onz t0 n1 s2 h Γ').length
        · rw [if_pos e, if_pos e]
          unfold hzx
          omega
        · rw [if_neg e, if_neg e]
          omega)
      obtain ⟨w0, hw0, hw1⟩ := k8
      have q5 := Zx_mem (x := max z s.1) (frg F s.2.2.2.2.2) w0 hw0
      have q6 : (frg F s.2.2.2.2.2).foldr (fun u a => max (u.2 + u.1 * max z s.1) a) 0 = Zx F (max z s.1) (s.2.2.2.2.2 + 2) := rfl
      rw [q6] at q5
      have q7 : (flv C' + 1) * max z s.1 ≤ w0.1 * max z s.1 := Nat.mul_le_mul_right _ (by have := flv_lmx oC' (Nat.le_refl _) (by omega); omega)
      have q8 : flv C' * z ≤ flv C' * max z s.1 := Nat.mul_le_mul_left _ (Nat.le_max_left _ _)
      have q9 := Nat.le_max_right z s.1
      rw [Nat.add_mul, Nat.one_mul] at q7
      rw [nz_all] at q
      unfold e2w
      exact le_mx (Or.inl (by omega))
  refine gen_fin6 (un := un) (a5 := a5) (cd := cd) (wB := s.1) (E0 := s.2.2.1) (p := s.2.2.2.1) (ob := s.2.2.2.2.1) (k := s.2.2.2.2.2) (y := s.1) hn hm T hFm hgr hWm hW1 hW H1 w he l1 cu hm30 hdc hcd a55 ha5 y01 (fun j hj => hw' j (by rw [l1] at hj; exact hj)) (HE_sfy ebw_mono e2w_mono hm hh hn (Nat.le_max_left _ _) he.1 hw' (fun Δ' b1 Γ' e' o9 w9 q => ?_)) go R hS
  have oth : OBs ob b1 → IS2 (fun s' => HS2 t0 n1 s2 h (ebw F W hv s.1 cd (mch t) s.2.2.1 s.2.2.2.1 s.1 s.2.2.2.2.1) (e2w F W hv s.1 cd (mch t) s.2.2.2.2.2) (onz t0 n1 s2 h Γ') s' ∨ ∀ z, nz t0 n1 s2 h (onz t0 n1 s2 h Γ') s' + flv s' * z ≤ ebw F W hv s.1 cd (mch t) s.2.2.1 s.2.2.2.1 s.1 s.2.2.2.2.1 z) b1 := fun c => by
    refine IS2_sch _ Γ'.length b1 (Nat.le_refl _) o9 (fun B' C' o3 n3 d3 => ?_) c
    obtain ⟨c1, c2, c3⟩ := d3 B' C' rfl
    exact Or.inl (few Γ' B' C' o3 (Nat.le_trans (n3 t0 n1 s2 h _) q) c1 c2 c3)
  rcases app_cut Δ1 Δ' e' with m | ⟨m1, m2⟩ | m
  · exact Or.inr (Or.inr (oth (hb1 b1 m)))
  · subst m1
    subst m2
    refine Or.inr (Or.inr (IS2_sch _ Γ'.length b1 (Nat.le_refl _) oB (fun B' C' o3 n3 d3 => ?_) iσ))
    rcases d3 with d3 | ⟨d4, d5, d6, d7⟩
    · rw [d3]
      exact Or.inl hA2
    · obtain ⟨c1, c2, c3⟩ := hbs B' C' d4 d5 d6
      exact Or.inl (few Γ' B' C' o3 (Nat.le_trans (n3 t0 n1 s2 h _) q) c1 c2 c3)
  · exact Or.inr (Or.inr (oth (hb0 b1 m)))
end PmHq
