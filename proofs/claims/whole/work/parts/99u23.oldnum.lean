/-! A SCHEME WITH BOUND TOP, WHATEVER ITS BODY: its body may be replaced by one that is worth as much as its greatest inner body. -/
def alls : Nat → Ty
  | 0 => tTop
  | n + 1 => tAll tTop (alls n)
/-- worth 2n in a comparison, 3n + 2 rows, n + 3 goals -/
def Dch (n : Nat) : Ty := tFun (alls n) tTop
section PmUx
variable {Γ0 : List Ty} {B C : Ty} {V Vg n y yg : Nat}
theorem alls_ok : ∀ (n d : Nat), ok d (alls n) = true
  | 0, _ => rfl
  | n + 1, d => ok_all.mpr ⟨rfl, alls_ok n (d + 1)⟩
theorem alls_lft (k m : Nat) : ∀ n : Nat, lft k m (alls n) = alls n
  | 0 => lft_top _ _
  | n + 1 => by
    show lft k m (tAll tTop (alls n)) = tAll tTop (alls n)
    rw [lft_all, lft_top, alls_lft k m n]
theorem alls_pm : ∀ (n : Nat) (ω : List Nat), pmz (qu 1) false ω (alls n) = 2 * n
  | 0, ω => pmz_top ω
  | n + 1, ω => by
    show pmz (qu 1) false ω (tAll tTop (alls n)) = _
    rw [pmz_all, alls_pm n]
    show 1 + 1 + 2 * n = 2 * (n + 1)
    omega
theorem alls_mr (b : Bool) : ∀ (n : Nat) (d : Bool) (ω υ : List Nat), 3 * n ≤ mrz b 1 d ω υ (alls n)
  | 0, _, _, _ => Nat.zero_le _
  | n + 1, d, ω, υ => by
    show _ ≤ mrz b 1 d ω υ (tAll tTop (alls n))
    rw [mrz_all]
    have := alls_mr b n d (vlr b 1 (mrz b 1 true ω υ tTop) :: ω) ((1 + pmz (qu 1) true υ tTop) :: υ)
    omega
theorem alls_gz : ∀ (n : Nat) (Γ : List Ty), gz Γ (alls n) = n + 1
  | 0, Γ => gz_top
  | n + 1, Γ => by
    show gz Γ (tAll tTop (alls n)) = _
    rw [gz_all, alls_gz n]
    omega
theorem alls_mz (b : Bool) : ∀ (n : Nat) (Γ : List Ty), mz b 1 Γ (alls n) = 3 * n
  | 0, Γ => mz_top
  | n + 1, Γ => by
    show mz b 1 Γ (tAll tTop (alls n)) = _
    rw [mz_all, alls_mz b n]
    omega
theorem Dch_num (hV : V ≤ 2 * n) (hG : Vg ≤ n + 3) (v1 : 1 ≤ V) (v2 : 1 ≤ Vg) : DNm V Vg (Dch n) Γ0 := by
  refine ⟨⟨ok_fun.mpr ⟨alls_ok n _, rfl⟩, by unfold Dch; rw [hd_fun]; decide⟩, fun Δ => ?_, fun Γ => ?_, fun b Γ => ?_, fun Γ => ?_, v1, v2⟩
  · unfold upb Dch
    rw [lft_fun, alls_lft, lft_top]
  · have e : pmz (qu 1) true (oq (qu 1) Γ) (Dch n) = qu 1 true 1 + (pmz (qu 1) (!true) (oq (qu 1) Γ) (alls n) + pmz (qu 1) true (oq (qu 1) Γ) tTop) := pmz_fun _ _ _
    have e2 := alls_pm n (oq (qu 1) Γ)
    have e3 : pmz (qu 1) (!true) (oq (qu 1) Γ) (alls n) = pmz (qu 1) false (oq (qu 1) Γ) (alls n) := rfl
    rw [e, e3, e2]
    omega
  · have e : urm b 1 0 Γ (Dch n) = (1 + 1) + (mrz b 1 _ _ _ (alls n) + mrz b 1 _ _ _ tTop) := mrz_fun _ _ _ _
    rw [e]
    have := alls_mr b n (!(decide (0 = 0))) (oz b 1 Γ) (oq (qu 1) Γ)
    omega
  · unfold Dch
    rw [gz_fun, alls_gz, gz_top]
    have : ngc 1 = 1 := rfl
    omega
theorem Dch_va (b : Bool) : vlr b 1 (mz b 1 Γ0 (tAll B (Dch n))) ≤ 3 * n + 6 := by
  have e : mz b 1 Γ0 (tAll B (Dch n)) = 3 * n + 5 := by
    unfold Dch
    rw [mz_all, mz_fun, alls_mz, mz_top]
    omega
  rw [e]
  have := vlr_lip b 1 0 (3 * n + 5)
  have v0 : vlr b 1 0 ≤ 2 := by cases b <;> decide
  have v3 : vlr b 1 5 ≤ 6 := by cases b <;> decide
  have v4 := vlr_lip b 1 5 (3 * n)
  rw [Nat.add_comm (3 * n) 5]
  omega
theorem Dch_vg : gz Γ0 (tAll B (Dch n)) ≤ n + 4 := by
  unfold Dch
  rw [gz_all, gz_fun, alls_gz, gz_top]
  have : ngc 1 = 1 := rfl
  omega
/-- bounds and body by characters -/
theorem hkv_num (hC : hd C ≠ 0 ∧ hd C < 16) (hc : okc (tAll tTop C :: Γ0)) (y2 : 2 ≤ y) (g1 : 1 ≤ yg) (h56 : tch C ≤ 56) (h0 : ∀ j, j < Γ0.length → tch (bnd Γ0 j) ≤ 56) (hw : ∀ b j, j < Γ0.length → vw (onz 0 (fun _ => 1 + 1) (2 + 1) (vlr b 1) Γ0) j ≤ y) (hg : ∀ j, j < Γ0.length → vw (onz 1 ngc 1 (fun x => x) Γ0) j ≤ yg) (hV : ∀ k, (k = tch C ∨ ∃ j, j < Γ0.length ∧ k = tch (bnd Γ0 j)) → 6 ≤ k → (∀ p ∈ frg fr1 (k - 5), p.2 + p.1 * y ≤ V) ∧ ∀ p ∈ frg frq (k - 5), p.2 + p.1 * yg ≤ Vg) : HKv 0 V Vg tTop C Γ0 := by
  have oC := (ok_all.mp hc.1).2
  have oc0 := hc.2
  refine ⟨⟨by decide, rfl⟩, hC, fun b => ⟨fun j hj => ?_, kw_top _, ?_⟩, fun j hj => ?_, kw_top _, ?_⟩
  · have ls : (onz 0 (fun _ => 1 + 1) (2 + 1) (vlr b 1) (sfx Γ0 j)).length = j := by rw [onz_len, sfx_len (by omega)]
    exact kw_num (tbs1 b) _ (bnd Γ0 j) _ y (Nat.le_refl _) (by rw [ls]; exact okc_bnd' oc0 hj) (h0 j hj) (by omega) (Nat.le_trans (show vlr b 1 0 ≤ 2 by cases b <;> decide) y2) (fun i hi => by
      rw [ls] at hi
      rw [← onz_sub Γ0 j i (by omega) hi]
      exact hw b i (by omega)) (fun h6 => (hV _ (Or.inr ⟨j, hj, rfl⟩) h6).1)
  · have l0 := onz_len 0 (fun _ => 1 + 1) (2 + 1) (vlr b 1) Γ0
    refine kw_num (tbs1 b) _ C _ y (Nat.le_refl _) (by rw [onz_len, List.length_cons]; exact oC) h56 (by omega) (Nat.le_trans (show vlr b 1 0 ≤ 2 by cases b <;> decide) y2) (fun i hi => ?_) (fun h6 => (hV _ (Or.inl rfl) h6).1)
    rw [onz_len, List.length_cons] at hi
    show vw (vlr b 1 (nz 0 (fun _ => 1 + 1) (2 + 1) (vlr b 1) (onz 0 (fun _ => 1 + 1) (2 + 1) (vlr b 1) Γ0) tTop) :: onz 0 (fun _ => 1 + 1) (2 + 1) (vlr b 1) Γ0) i ≤ y
    rw [vw_cons, l0, nz_top]
    by_cases e : i = Γ0.length
    · rw [if_pos e]; exact Nat.le_trans (show vlr b 1 0 ≤ 2 by cases b <;> decide) y2
    · rw [if_neg e]; exact hw b i (by omega)
  · have ls : (onz 1 ngc 1 (fun x => x) (sfx Γ0 j)).length = j := by rw [onz_len, sfx_len (by omega)]
    exact kw_num tbsq _ (bnd Γ0 j) _ yg (Nat.le_refl _) (by rw [ls]; exact okc_bnd' oc0 hj) (h0 j hj) g1 g1 (fun i hi => by
      rw [ls] at hi
      rw [← onz_sub Γ0 j i (by omega) hi]
      exact hg i (by omega)) (fun h6 => (hV _ (Or.inr ⟨j, hj, rfl⟩) h6).2)
  · have l0 := onz_len 1 ngc 1 (fun x => x) Γ0
    refine kw_num tbsq _ C _ yg (Nat.le_refl _) (by rw [onz_len, List.length_cons]; exact oC) h56 g1 g1 (fun i hi => ?_) (fun h6 => (hV _ (Or.inl rfl) h6).2)
    rw [onz_len, List.length_cons] at hi
    show vw ((fun x => x) (nz 1 ngc 1 (fun x => x) (onz 1 ngc 1 (fun x => x) Γ0) tTop) :: onz 1 ngc 1 (fun x => x) Γ0) i ≤ yg
    rw [vw_cons, l0, nz_top]
    by_cases e : i = Γ0.length
    · rw [if_pos e]; exact g1
    · rw [if_neg e]; exact hg i (by omega)
end PmUx
