/-! THE BODY MAY BE REPLACED BY WHAT IS WORTH AS MUCH AS THE GREATEST INNER BODY OF THE SAME KIND. -/
def kmc (C b : Ty) : Bool := decide (hd b < 16) && kms C b
theorem kmc_lft {C : Ty} (k n : Nat) (t : Ty) (d : Nat) (o : ok d t = true) (q : kmc C t = true) : kmc C (lft k n t) = true := by
  unfold kmc at q ⊢
  rw [Bool.and_eq_true, decide_eq_true_iff] at q
  rw [Bool.and_eq_true, decide_eq_true_iff, (hd_lft0 o).2 q.1, kms_lft k n t d o q.1]
  exact q
section PmUv
variable {h V Vg : Nat} {B C Dm : Ty} {Γ0 : List Ty}
/-- another kind: nothing comes of it -/
theorem mis_raw {Δ : List Ty} {f : Ty} (hC : hd C ≠ 0 ∧ hd C < 16) (tk : tok (upb Γ0 Δ B :: cxs Δ Γ0 (tAll B C), f, upb Γ0 Δ C)) (oC : ok (Γ0.length + 1) C = true) (q : kmc C f = true) : trx (upb Γ0 Δ B :: cxs Δ Γ0 (tAll B C), f, upb Γ0 Δ C) = 0 ∧ trx (upb Γ0 Δ B :: cxs Δ Γ0 (tAll B C), upb Γ0 Δ C, f) = 0 ∧ (gm (0, upb Γ0 Δ B :: cxs Δ Γ0 (tAll B C), f, upb Γ0 Δ C) ≤ 1 ∧ gn (0, upb Γ0 Δ B :: cxs Δ Γ0 (tAll B C), f, upb Γ0 Δ C) ≤ 1) ∧ gm (0, upb Γ0 Δ B :: cxs Δ Γ0 (tAll B C), upb Γ0 Δ C, f) ≤ 1 ∧ gn (0, upb Γ0 Δ B :: cxs Δ Γ0 (tAll B C), upb Γ0 Δ C, f) ≤ 1 := by
  have hX : hd (upb Γ0 Δ C) = hd C := (hd_lft0 oC).2 hC.2
  have nX : ¬ 16 ≤ hd (upb Γ0 Δ C) := by omega
  have tk2 : tok (upb Γ0 Δ B :: cxs Δ Γ0 (tAll B C), upb Γ0 Δ C, f) := ⟨tk.1, tk.2.2, tk.2.1⟩
  unfold kmc at q
  rw [Bool.and_eq_true, decide_eq_true_iff] at q
  have v : ¬ 16 ≤ hd f := by omega
  have q := q.2
  by_cases kk : hd f = 2 ∧ hd C = 2 ∧ shp (k1 f) ≠ shp (k1 C)
  · have hX2 : hd (upb Γ0 Δ C) = 2 := by rw [hX]; exact kk.2.1
    have ne : flat (k1 f) ≠ flat (k1 (upb Γ0 Δ C)) := by
      intro he
      refine kk.2.2 ?_
      have e1 : shp (k1 f) = shp (k1 (upb Γ0 Δ C)) := by unfold shp; rw [he]
      rw [e1]
      have e2 : k1 (upb Γ0 Δ C) = upb Γ0 Δ (k1 C) := by
        rcases ok_cases oC with h | ⟨j, hj, h⟩ | ⟨a, b, h, -, -⟩ | ⟨a, b, h, -, -⟩ | ⟨m, x, y, z, hm, h, -, -, -⟩
        · have := congrArg hd h; rw [kk.2.1, hd_top] at this; omega
        · have := congrArg hd h; rw [kk.2.1, hd_var] at this; omega
        · have := congrArg hd h; rw [kk.2.1, hd_fun] at this; omega
        · rw [h]; unfold upb; rw [lft_all]; rfl
        · have := congrArg hd h; rw [kk.2.1, hd_rec] at this; omega
      rw [e2]
      unfold upb
      exact shp_lft _ _ _
    exact ⟨trx_mis2 v kk.1 hX2 ne, trx_mis2 nX hX2 kk.1 (fun h => ne h.symm), gm_mis2 (w := 0) tk (by decide) kk.1 hX2 ne, gm_mis2 (w := 0) tk2 (by decide) hX2 kk.1 (fun h => ne h.symm)⟩
  · have nm : hd f ≠ hd (upb Γ0 Δ C) ∧ ¬ (8 ≤ hd f ∧ 8 ≤ hd (upb Γ0 Δ C)) := by
      rw [hX]
      unfold kms at q
      rw [Bool.or_eq_true, decide_eq_true_iff] at q
      rcases q with q | q
      · unfold kmm at q
        rw [decide_eq_true_iff] at q
        omega
      · exact absurd q kk
    exact ⟨trx_mis v nm.1 (fun h => nm.2 ⟨h.1, h.2.1⟩), trx_mis nX (fun h => nm.1 h.symm) (fun h => nm.2 ⟨h.2.1, h.1⟩), gm_mis (w := 0) tk (by decide) v nX nm.1 nm.2, gm_mis (w := 0) tk2 (by decide) nX v (fun h => nm.1 h.symm) (fun h => nm.2 ⟨h.2, h.1⟩)⟩
/-- bounds, bound and body: inner bodies of another kind, or worth at most V -/
def KV3 (h V t0 : Nat) (n1 : Nat → Nat) (s2 : Nat) (hf : Nat → Nat) (κ : Ty → Bool) (B C : Ty) (Γ0 : List Ty) : Prop := (∀ j, j < Γ0.length → kw h V t0 n1 s2 hf κ (onz t0 n1 s2 hf (sfx Γ0 j)) (bnd Γ0 j) = true) ∧ kw h V t0 n1 s2 hf κ (onz t0 n1 s2 hf Γ0) B = true ∧ kw h V t0 n1 s2 hf κ (onz t0 n1 s2 hf (B :: Γ0)) C = true
def HKv (h V Vg : Nat) (B C : Ty) (Γ0 : List Ty) : Prop := (h < 16 ∧ hd B = h) ∧ (hd C ≠ 0 ∧ hd C < 16) ∧ (∀ b, KV3 h V 0 (fun _ => 1 + 1) (2 + 1) (vlr b 1) (kmc C) B C Γ0) ∧ KV3 h Vg 1 ngc 1 (fun x => x) (kmc C) B C Γ0
/-- what takes the body's place -/
def DNm (V Vg : Nat) (Dm : Ty) (Γ0 : List Ty) : Prop := (ok (Γ0.length + 1) Dm = true ∧ hd Dm ≠ 0) ∧ (∀ Δ, upb Γ0 Δ Dm = Dm) ∧ (∀ Γ, V ≤ pmz (qu 1) true (oq (qu 1) Γ) Dm) ∧ (∀ b Γ, V ≤ urm b 1 0 Γ Dm) ∧ (∀ Γ, Vg ≤ gz Γ Dm) ∧ 1 ≤ V ∧ 1 ≤ Vg
theorem HKv.ov (H : HKv h V Vg B C Γ0) (D : DNm V Vg Dm Γ0) : OVq 1 B C Dm Γ0 := by
  obtain ⟨⟨h16, hB⟩, hC, hr, hq⟩ := H
  obtain ⟨oD, uD, d1, d2, d3, v1, v2⟩ := D
  refine ⟨oD, fun Δ hc => ?_⟩
  have cr := fun b => @Kv.cl h V 0 (2 + 1) (fun _ => 1 + 1) (vlr b 1) (kmc C) B C Γ0 (vlr_mono b 1) kmc_lft h16 hB (cxs Δ Γ0 (tAll B C)).length
  have cq := @Kv.cl h Vg 1 1 ngc (fun x => x) (kmc C) B C Γ0 (fun y y' hy => hy) kmc_lft h16 hB (cxs Δ Γ0 (tAll B C)).length
  have oC := (ok_all.mp (okc_mid hc)).2
  refine ⟨fun Δ' t => (∀ b, Kv h V 0 (fun _ => 1 + 1) (2 + 1) (vlr b 1) (kmc C) B C Γ0 (cxs Δ Γ0 (tAll B C)).length Δ' t) ∧ Kv h Vg 1 ngc 1 (fun x => x) (kmc C) B C Γ0 (cxs Δ Γ0 (tAll B C)).length Δ' t, ⟨oD, fun Δ' t k => ?_⟩, fun Δ' t k f et tk => ?_, fun b => Kv.base (vlr_mono b 1) kmc_lft h16 hc (hr b).1 (hr b).2.1 (hr b).2.2, Kv.base (fun y y' hy => hy) kmc_lft h16 hc hq.1 hq.2.1 hq.2.2⟩
  · obtain ⟨k1, k2⟩ := k
    have c1 := fun b => cr b (k1 b)
    have c2 := cq k2
    refine ⟨fun a b e => ⟨⟨fun d => ((c1 d).1 a b e).1, (c2.1 a b e).1⟩, ⟨fun d => ((c1 d).1 a b e).2, (c2.1 a b e).2⟩⟩, fun m x y z hm e => ⟨fun q => ⟨fun d => ((c1 d).2.1 m x y z hm e).1 q, (c2.2.1 m x y z hm e).1 q⟩, fun q => ⟨fun d => ((c1 d).2.1 m x y z hm e).2.1 q, (c2.2.1 m x y z hm e).2.1 q⟩, fun q => ⟨fun d => ((c1 d).2.1 m x y z hm e).2.2 q, (c2.2.1 m x y z hm e).2.2 q⟩⟩, fun a b e => ⟨fun d => (c1 d).2.2.1 a b e, c2.2.2.1 a b e⟩, fun j e hj => ⟨(c2.2.2.2.1 j e hj).1, fun d => ((c1 d).2.2.2.1 j e hj).2, (c2.2.2.2.1 j e hj).2⟩, fun f e tb => ?_⟩
    have p1 := d1 (upb Γ0 Δ' B :: cxs Δ' Γ0 (tAll B Dm))
    have p2 := d2 false (upb Γ0 Δ' B :: cxs Δ' Γ0 (tAll B Dm))
    have p3 := d2 true (upb Γ0 Δ' B :: cxs Δ' Γ0 (tAll B Dm))
    unfold EVb
    rw [uD]
    by_cases km : kmc C f = true
    · obtain ⟨m1, m2, m3, m4⟩ := mis_raw hC tb.1 oC km
      refine ⟨by omega, by omega, by omega, by omega⟩
    · have r1 := ((c1 true).2.2.2.2 f e).resolve_left km
      have r2 := ((c1 false).2.2.2.2 f e).resolve_left km
      have tb2 : TB 1 (upb Γ0 Δ' B :: cxs Δ' Γ0 (tAll B C), upb Γ0 Δ' C, f) := ⟨⟨tb.1.1, tb.1.2.2, tb.1.2.1⟩, tb.2.1, tb.2.2.2, tb.2.2.1⟩
      have s1 := Nat.le_trans (trx_nzS true tb) r1
      have s2 := Nat.le_trans (trx_nzT true tb2) r1
      have s3 := Nat.le_trans (Nat.le_trans (gm_rowsS (Nat.le_refl 1) (z := (0, upb Γ0 Δ' B :: cxs Δ' Γ0 (tAll B C), f, upb Γ0 Δ' C)) tb (Nat.zero_le 1)) (urm_nz (b := true) (e := 1) (w := 0) tb.1.1 tb.1.2.1)) r1
      have s4 := Nat.le_trans (Nat.le_trans (gm_rowsT (Nat.le_refl 1) (z := (0, upb Γ0 Δ' B :: cxs Δ' Γ0 (tAll B C), upb Γ0 Δ' C, f)) tb2 (Nat.zero_le 1)) (urm_nz (b := false) (e := 1) (w := 0) tb.1.1 tb.1.2.1)) r2
      exact ⟨Nat.le_trans s1 p1, Nat.le_trans s2 p1, Nat.le_trans s3 p2, Nat.le_trans s4 p3⟩
  · obtain ⟨-, k2⟩ := k
    have p1 := d3 (upb Γ0 Δ' B :: cxs Δ' Γ0 (tAll B Dm))
    rw [uD]
    by_cases km : kmc C f = true
    · obtain ⟨m1, m2, m3, m4⟩ := mis_raw hC tk oC km
      refine ⟨by omega, by omega⟩
    · have r1 := ((cq k2).2.2.2.2 f et).resolve_left km
      have tk2 : tok (upb Γ0 Δ' B :: cxs Δ' Γ0 (tAll B C), upb Γ0 Δ' C, f) := ⟨tk.1, tk.2.2, tk.2.1⟩
      have s1 := Nat.le_trans (Nat.le_trans (gn_S (z := (0, upb Γ0 Δ' B :: cxs Δ' Γ0 (tAll B C), f, upb Γ0 Δ' C)) tk (Nat.zero_le 1)) (ugS_nz tk.1 tk.2.1)) r1
      have s2 := Nat.le_trans (Nat.le_trans (gn_T (z := (0, upb Γ0 Δ' B :: cxs Δ' Γ0 (tAll B C), upb Γ0 Δ' C, f)) tk2 (Nat.zero_le 1)) (ugT_nz tk.1 tk.2.1)) r1
      exact ⟨Nat.le_trans s1 p1, Nat.le_trans s2 p1⟩
end PmUv
