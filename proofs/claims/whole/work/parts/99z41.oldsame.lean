/-! OLD TYPES: inner schemes whose bound is that very type. -/
/-- the same type -/
def tqB (B a : Ty) : Bool := decide (flat a = flat B)
section PmHo
variable {B : Ty} {d0 k n : Nat}
theorem codes_lt : ∀ (f : Nat) (t : Ty) (d : Nat), (flat t).length ≤ f → ok d t = true → nsch t = true → ∀ c ∈ flat t, c < 16 + (d : Int)
  | 0, t, d, hf, o, _ => by have := flat_pos o; omega
  | f + 1, t, d, hf, o, hn => by
    rcases ok_cases o with rfl | ⟨j, hj, rfl⟩ | ⟨a, c, rfl, ha, hb⟩ | ⟨a, c, rfl, ha, hb⟩ | ⟨m, x, y, z, hm, rfl, h0, h1, h2⟩
    · intro c hc
      rw [show flat tTop = [0] from rfl, List.mem_singleton] at hc
      omega
    · intro c hc
      rw [show flat (tVar j) = [((16 + j : Nat) : Int)] from rfl, List.mem_singleton] at hc
      omega
    · rw [flat_fun, List.length_cons, List.length_append] at hf
      rw [nsch_fun, Bool.and_eq_true] at hn
      intro c' hc
      rw [flat_fun, List.mem_cons, List.mem_append] at hc
      rcases hc with hc | hc | hc
      · omega
      · exact codes_lt f a d (by omega) ha hn.1 c' hc
      · exact codes_lt f c d (by omega) hb hn.2 c' hc
    · rw [nsch_all] at hn; cases hn
    · rw [flat_rec, List.length_cons, List.length_append, List.length_append] at hf
      rw [nsch_rec, Bool.and_eq_true, Bool.and_eq_true] at hn
      intro c' hc
      rw [flat_rec, List.mem_cons, List.mem_append, List.mem_append] at hc
      have key : ∀ (i : Nat) (u : Ty), okl d m i u → (flat u).length ≤ f → nsch u = true → c' ∈ flat u → c' < 16 + (d : Int) := by
        intro i u ou lu nu cu
        unfold okl at ou
        by_cases hb : bit m i = true
        · rw [if_pos hb] at ou
          exact codes_lt f u d lu ou nu c' cu
        · rw [if_neg hb] at ou
          rw [ou] at cu
          cases cu
      rcases hc with hc | hc | hc | hc
      · omega
      · exact key 0 x h0 (by omega) hn.1 hc
      · exact key 1 y h1 (by omega) hn.2.1 hc
      · exact key 2 z h2 (by omega) hn.2.2 hc
theorem tqB_lft (oB : ok d0 B = true) (nB : nsch B = true) (hk : d0 ≤ k + n) (a : Ty) (d : Nat) (_ : ok d a = true) (h : tqB B (lft k n a) = true) : tqB B a = true := by
  unfold tqB at h ⊢
  rw [decide_eq_true_iff] at h ⊢
  rw [flat_lft] at h
  have cl := codes_lt _ B d0 (Nat.le_refl _) oB nB
  rw [← h] at cl ⊢
  have e : (flat a).map (lfc k n) = (flat a).map id := List.map_congr_left (fun c hc => by
    have q := cl _ (List.mem_map_of_mem hc)
    unfold lfc at q ⊢
    split
    · rename_i g
      rw [if_pos g] at q
      omega
    · rfl)
  rw [e, List.map_id]
theorem tqB_up {Γ0 Δ : List Ty} (oB : ok Γ0.length B = true) (nB : nsch B = true) : tqB B (upb Γ0 Δ B) = true := by
  unfold tqB upb
  rw [decide_eq_true_iff, flat_lft]
  have cl := codes_lt _ B Γ0.length (Nat.le_refl _) oB nB
  have e : (flat B).map (lfc Γ0.length (Δ.length + 1)) = (flat B).map id := List.map_congr_left (fun c hc => by
    have q := cl _ hc
    unfold lfc
    rw [if_neg (by omega)]
    rfl)
  rw [e, List.map_id]
end PmHo
def kt (m : Nat) (tq : Ty → Bool) (κ : Ty → Bool) : (Nat → Bool) → Nat → Ty → Bool
  | τ, D, .tag c (.append a b) => if c = 2 then ((!(tq a)) || bdr κ (updr m τ D a) b) && (kt m tq κ τ D a && kt m tq κ (updr m τ D a) (D + 1) b) else kt m tq κ τ D a && kt m tq κ τ D b
  | τ, D, .append a b => kt m tq κ τ D a && kt m tq κ τ D b
  | _, _, _ => true
section PmHm
variable {m : Nat} {tq κ : Ty → Bool}
theorem kt_top (τ : Nat → Bool) (D : Nat) : kt m tq κ τ D tTop = true := by simp [tTop, kt]
theorem kt_var (τ : Nat → Bool) (D k : Nat) : kt m tq κ τ D (tVar k) = true := by simp [tVar, kt]
theorem kt_nil (τ : Nat → Bool) (D : Nat) : kt m tq κ τ D .nil = true := by simp [kt]
theorem kt_fun {τ : Nat → Bool} {D : Nat} {a b : Ty} : kt m tq κ τ D (tFun a b) = true ↔ kt m tq κ τ D a = true ∧ kt m tq κ τ D b = true := by simp [tFun, kt]
theorem kt_all {τ : Nat → Bool} {D : Nat} {a b : Ty} : kt m tq κ τ D (tAll a b) = true ↔ (tq a = true → bdr κ (updr m τ D a) b = true) ∧ kt m tq κ τ D a = true ∧ kt m tq κ (updr m τ D a) (D + 1) b = true := by
  simp only [tAll, kt, if_true, Bool.and_eq_true, Bool.or_eq_true, Bool.not_eq_true']
  constructor
  · rintro ⟨h1, h2⟩
    exact ⟨fun e => h1.resolve_left (fun n => by rw [e] at n; cases n), h2⟩
  · rintro ⟨h1, h2⟩
    refine ⟨?_, h2⟩
    by_cases e : tq a = true
    · exact Or.inr (h1 e)
    · exact Or.inl (by simpa using e)
theorem kt_rec {τ : Nat → Bool} {D c : Nat} {x y z : Ty} : kt m tq κ τ D (tRec c x y z) = true ↔ kt m tq κ τ D x = true ∧ kt m tq κ τ D y = true ∧ kt m tq κ τ D z = true := by
  have e : ¬ 8 + c = 2 := by omega
  simp [tRec, kt, e]
theorem kt_lft {k n : Nat} (hκ : ∀ (t : Ty) (d : Nat), ok d t = true → hd t < 16 → κ (lft k n t) = κ t) : ∀ (f : Nat) (t : Ty) (D : Nat) (τ τ' : Nat → Bool), (flat t).length ≤ f → k ≤ D → ok D t = true → (∀ i, i < D → τ i = true → τ' (if k ≤ i then i + n else i) = true) → (∀ (a : Ty) (d : Nat), ok d a = true → tq (lft k n a) = true → tq a = true) → kt m tq κ τ D t = true → kt m tq κ τ' (D + n) (lft k n t) = true
  | 0, t, D, _, _, hf, _, o, _, _, _ => by have := flat_pos o; omega
  | f + 1, t, D, τ, τ', hf, hk, o, hτ, h16, ht => by
    rcases ok_cases o with rfl | ⟨j, hj, rfl⟩ | ⟨a, b, rfl, ha, hb⟩ | ⟨a, b, rfl, ha, hb⟩ | ⟨c, x, y, z, hm, rfl, h0, h1, h2⟩
    · rw [lft_top]; exact kt_top _ _
    · rw [lft_var]
      split <;> exact kt_var _ _ _
    · rw [flat_fun, List.length_cons, List.length_append] at hf
      rw [kt_fun] at ht
      rw [lft_fun, kt_fun]
      exact ⟨kt_lft hκ f a D τ τ' (by omega) hk ha hτ h16 ht.1, kt_lft hκ f b D τ τ' (by omega) hk hb hτ h16 ht.2⟩
    · rw [flat_all, List.length_cons, List.length_append] at hf
      rw [kt_all] at ht
      rw [lft_all, kt_all]
      have hτ2 : ∀ i, i < D + 1 → updr m τ D a i = true → updr m τ' (D + n) (lft k n a) (if k ≤ i then i + n else i) = true := by
        intro i hi q
        unfold updr at q ⊢
        by_cases e : i = D
        · subst e
          rw [if_pos rfl] at q
          rw [if_pos hk, if_pos rfl]
          exact gk_lft ha q
        · rw [if_neg e] at q
          have q2 := hτ i (by omega) q
          rw [if_neg (by split <;> omega)]
          exact q2
      refine ⟨fun e => ?_, kt_lft hκ f a D τ τ' (by omega) hk ha hτ h16 ht.2.1, ?_⟩
      · have ea : tq a = true := h16 a D ha e
        have q := ht.1 ea
        unfold bdr at q ⊢
        rw [Bool.or_eq_true] at q ⊢
        rcases q with q | q
        · left
          rw [decide_eq_true_iff] at q ⊢
          exact (hd_lft0 hb).1.mpr q
        · right
          by_cases v : 16 ≤ hd b
          · obtain ⟨j, hj, rfl⟩ := hd_is_var hb v
            rw [if_pos v, hd_var, show 16 + j - 16 = j by omega] at q
            have q2 := hτ2 j hj q
            rw [lft_var]
            by_cases e2 : k ≤ j
            · rw [if_pos e2] at q2 ⊢
              rw [hd_var, if_pos (by omega), show 16 + (j + n) - 16 = j + n by omega]
              exact q2
            · rw [if_neg e2] at q2 ⊢
              rw [hd_var, if_pos (by omega), show 16 + j - 16 = j by omega]
              exact q2
          · rw [if_neg v] at q
            have e2 := (hd_lft0 (k := k) (n := n) hb).2 (by omega)
            rw [e2, if_neg v, hκ b _ hb (by omega)]
            exact q
      · have q := kt_lft hκ f b (D + 1) (updr m τ D a) (updr m τ' (D + n) (lft k n a)) (by omega) (by omega) hb hτ2 h16 ht.2.2
        rw [show D + 1 + n = D + n + 1 by omega] at q
        exact q
    · rw [flat_rec, List.length_cons, List.length_append, List.length_append] at hf
      rw [kt_rec] at ht
      rw [lft_rec hm, kt_rec]
      have key : ∀ (i : Nat) (p : Ty), (flat p).length ≤ f → okl D c i p → kt m tq κ τ D p = true → kt m tq κ τ' (D + n) (lft k n p) = true := by
        intro i p hp ho hn
        unfold okl at ho
        by_cases hb : bit c i = true
        · rw [if_pos hb] at ho
          exact kt_lft hκ f p D τ τ' hp hk ho hτ h16 hn
        · rw [if_neg hb] at ho
          rw [ho]; exact kt_nil _ _
      exact ⟨key 0 x (by omega) h0 ht.1, key 1 y (by omega) h1 ht.2.1, key 2 z (by omega) h2 ht.2.2⟩
/-- where more bounds are known to be Top -/
theorem kt_more : ∀ (f : Nat) (t : Ty) (D : Nat) (τ τ' : Nat → Bool), (flat t).length ≤ f → ok D t = true → (∀ i, i < D → τ i = true → τ' i = true) → kt m tq κ τ D t = true → kt m tq κ τ' D t = true
  | 0, t, D, _, _, hf, o, _, _ => by have := flat_pos o; omega
  | f + 1, t, D, τ, τ', hf, o, hτ, ht => by
    rcases ok_cases o with rfl | ⟨j, hj, rfl⟩ | ⟨a, b, rfl, ha, hb⟩ | ⟨a, b, rfl, ha, hb⟩ | ⟨c, x, y, z, hm, rfl, h0, h1, h2⟩
    · exact kt_top _ _
    · exact kt_var _ _ _
    · rw [flat_fun, List.length_cons, List.length_append] at hf
      rw [kt_fun] at ht ⊢
      exact ⟨kt_more f a D τ τ' (by omega) ha hτ ht.1, kt_more f b D τ τ' (by omega) hb hτ ht.2⟩
    · rw [flat_all, List.length_cons, List.length_append] at hf
      rw [kt_all] at ht ⊢
      have hτ2 : ∀ i, i < D + 1 → updr m τ D a i = true → updr m τ' D a i = true := by
        intro i hi q
        unfold updr at q ⊢
        by_cases e : i = D
        · rw [if_pos e] at q ⊢; exact q
        · rw [if_neg e] at q ⊢
          exact hτ i (by omega) q
      refine ⟨fun e => ?_, kt_more f a D τ τ' (by omega) ha hτ ht.2.1, kt_more f b (D + 1) _ _ (by omega) hb hτ2 ht.2.2⟩
      have q := ht.1 e
      unfold bdr at q ⊢
      rw [Bool.or_eq_true] at q ⊢
      rcases q with q | q
      · exact Or.inl q
      · right
        by_cases v : 16 ≤ hd b
        · rw [if_pos v] at q ⊢
          obtain ⟨j, hj, rfl⟩ := hd_is_var hb v
          rw [hd_var, show 16 + j - 16 = j by omega] at q ⊢
          exact hτ2 j hj q
        · rw [if_neg v] at q ⊢; exact q
    · rw [flat_rec, List.length_cons, List.length_append, List.length_append] at hf
      rw [kt_rec] at ht ⊢
      have key : ∀ (i : Nat) (p : Ty), (flat p).length ≤ f → okl D c i p → kt m tq κ τ D p = true → kt m tq κ τ' D p = true := by
        intro i p hp ho hn
        unfold okl at ho
        by_cases hb : bit c i = true
        · rw [if_pos hb] at ho
          exact kt_more f p D τ τ' hp ho hτ hn
        · rw [if_neg hb] at ho
          rw [ho]; exact kt_nil _ _
      exact ⟨key 0 x (by omega) h0 ht.1, key 1 y (by omega) h1 ht.2.1, key 2 z (by omega) h2 ht.2.2⟩
end PmHm
section PmHn
variable {e : Nat} {B C : Ty} {Γ0 : List Ty}
/-- every inner scheme with that bound (in the body, the bound, the bounds before) has a body of another kind -/
def HKt (B C : Ty) (Γ0 : List Ty) : Prop := (nsch B = true ∧ hd B < 16) ∧ (hd C ≠ 0 ∧ hd C < 16) ∧ (∀ j, j < Γ0.length → kt (hd C) (tqB B) (kms C) (taur (hd C) Γ0) j (bnd Γ0 j) = true) ∧ kt (hd C) (tqB B) (kms C) (taur (hd C) Γ0) Γ0.length B = true ∧ kt (hd C) (tqB B) (kms C) (updr (hd C) (taur (hd C) Γ0) Γ0.length B) (Γ0.length + 1) C = true
def Kt9 (B C : Ty) (Γ0 : List Ty) (l : Nat) (Δ : List Ty) (t : Ty) : Prop := (Γ0.length < l ∧ l ≤ (cxs Δ Γ0 (tAll B C)).length) ∧ okc (cxs Δ Γ0 (tAll B C)) ∧ gqc 5 Γ0.length l (cxs Δ Γ0 (tAll B C)) ∧ (∀ j, j < (cxs Δ Γ0 (tAll B C)).length → (j < Γ0.length ∨ l ≤ j) → kt (hd C) (tqB B) (kms C) (taur (hd C) (cxs Δ Γ0 (tAll B C))) j (bnd (cxs Δ Γ0 (tAll B C)) j) = true) ∧ ok (cxs Δ Γ0 (tAll B C)).length t = true ∧ gq 5 Γ0.length l t = true ∧ kt (hd C) (tqB B) (kms C) (taur (hd C) (cxs Δ Γ0 (tAll B C))) (cxs Δ Γ0 (tAll B C)).length t = true
/-- one binder more, that is old -/
theorem Kt9.ext {l : Nat} {Δ : List Ty} {a b t : Ty} (k : Kt9 B C Γ0 l Δ t) (oa : ok (cxs Δ Γ0 (tAll B C)).length a = true) (ob : ok ((cxs Δ Γ0 (tAll B C)).length + 1) b = true) (ga : gq 5 Γ0.length l a = true) (gb : gq 5 Γ0.length l b = true) (ka : kt (hd C) (tqB B) (kms C) (taur (hd C) (cxs Δ Γ0 (tAll B C))) (cxs Δ Γ0 (tAll B C)).length a = true) (kb : kt (hd C) (tqB B) (kms C) (updr (hd C) (taur (hd C) (cxs Δ Γ0 (tAll B C))) (cxs Δ Γ0 (tAll B C)).length a) ((cxs Δ Γ0 (tAll B C)).length + 1) b = true) : Kt9 B C Γ0 l (a :: Δ) b := by
  obtain ⟨⟨l1, l2⟩, hc, hg, hk, -, -, -⟩ := k
  have le : (cxs (a :: Δ) Γ0 (tAll B C)).length = (cxs Δ Γ0 (tAll B C)).length + 1 := rfl
  refine ⟨⟨l1, by rw [le]; omega⟩, ⟨oa, hc⟩, ?_, ?_, ob, gb, ?_⟩
  · intro j hj hp
    show gq 5 Γ0.length (min l j) (if j = (cxs Δ Γ0 (tAll B C)).length then a else bnd (cxs Δ Γ0 (tAll B C)) j) = true
    by_cases ej : j = (cxs Δ Γ0 (tAll B C)).length
    · rw [if_pos ej, ej, Nat.min_eq_left l2]; exact ga
    · rw [if_neg ej]
      exact hg j (by rw [le] at hj; omega) hp
  · intro j hj hp
    have agree : ∀ i, i < (cxs Δ Γ0 (tAll B C)).length → taur (hd C) (cxs Δ Γ0 (tAll B C)) i = true → taur (hd C) (cxs (a :: Δ) Γ0 (tAll B C)) i = true := by
      intro i hi q
      have q2 := taur_cons (m := hd C) (Γ := cxs Δ Γ0 (tAll B C)) (a := a) i
      show taur (hd C) (a :: cxs Δ Γ0 (tAll B C)) i = true
      rw [q2]
      unfold updr
      rw [if_neg (by omega)]
      exact q
    show kt (hd C) (tqB B) (kms C) (taur (hd C) (cxs (a :: Δ) Γ0 (tAll B C))) j (if j = (cxs Δ Γ0 (tAll B C)).length then a else bnd (cxs Δ Γ0 (tAll B C)) j) = true
    by_cases ej : j = (cxs Δ Γ0 (tAll B C)).length
    · rw [if_pos ej, ej]
      exact kt_more _ a _ _ _ (Nat.le_refl _) oa agree ka
    · rw [if_neg ej]
      have hj' : j < (cxs Δ Γ0 (tAll B C)).length := by rw [le] at hj; omega
      exact kt_more _ _ j _ _ (Nat.le_refl _) (okc_bnd' hc hj') (fun i hi => agree i (by omega)) (hk j hj' hp)
  · exact kt_more _ b _ _ _ (Nat.le_refl _) ob (fun i _ q => by
      have q2 := taur_cons (m := hd C) (Γ := cxs Δ Γ0 (tAll B C)) (a := a) i
      show taur (hd C) (a :: cxs Δ Γ0 (tAll B C)) i = true
      rw [q2]; exact q) kb
theorem Kt9.part {l : Nat} {Δ : List Ty} {t b : Ty} (k : Kt9 B C Γ0 l Δ t) (ob : ok (cxs Δ Γ0 (tAll B C)).length b = true) (gb : gq 5 Γ0.length l b = true) (kb : kt (hd C) (tqB B) (kms C) (taur (hd C) (cxs Δ Γ0 (tAll B C))) (cxs Δ Γ0 (tAll B C)).length b = true) : Kt9 B C Γ0 l Δ b := ⟨k.1, k.2.1, k.2.2.1, k.2.2.2.1, ob, gb, kb⟩
theorem Kt_KP (e1 : 1 ≤ e) (H : HKt B C Γ0) (l : Nat) : KPc e B C Dsm Γ0 (Kt9 B C Γ0 l) ∧ KGc B C Dsm Γ0 (Kt9 B C Γ0 l) := by
  obtain ⟨⟨h16, hB⟩, hC, -, -, -⟩ := H
  have body : ∀ Δ f, Kt9 B C Γ0 l Δ (tAll (upb Γ0 Δ B) f) → ok (Γ0.length + 1) C = true ∧ bdr (kms C) (updr (hd C) (taur (hd C) (cxs Δ Γ0 (tAll B C))) (cxs Δ Γ0 (tAll B C)).length (upb Γ0 Δ B)) f = true := by
    intro Δ f k
    obtain ⟨-, hc, -, -, -, -, kt⟩ := k
    have oA := okc_mid hc
    refine ⟨(ok_all.mp oA).2, (kt_all.mp kt).1 ?_⟩
    exact tqB_up (ok_all.mp oA).1 h16
  refine ⟨⟨⟨by unfold Dsm; exact ok_all.mpr ⟨rfl, rfl⟩, by unfold Dsm; rw [hd_all]; decide⟩, fun Δ t k => ?_⟩, fun Δ t k f et tk => ?_⟩
  · have k' := k
    obtain ⟨⟨l1, l2⟩, hc, hg, hk, ot, gt, kt⟩ := k'
    refine ⟨?_, ?_, ?_, ?_, ?_⟩
    · intro a b et
      subst et
      have o := ok_fun.mp ot
      rw [gq_fun] at gt
      rw [kt_fun] at kt
      exact ⟨k.part o.1 gt.1 kt.1, k.part o.2 gt.2 kt.2⟩
    · intro m x y z hm et
      subst et
      have o := (ok_rec hm).mp ot
      rw [gq_rec] at gt
      rw [kt_rec] at kt
      exact ⟨fun b => k.part (okl_on o.1 (bit_iff.mp b)) gt.1 kt.1, fun b => k.part (okl_on o.2.1 (bit_iff.mp b)) gt.2.1 kt.2.1, fun b => k.part (okl_on o.2.2 (bit_iff.mp b)) gt.2.2 kt.2.2⟩
    · intro a b et
      subst et
      have o := ok_all.mp ot
      rw [gq_all] at gt
      rw [kt_all] at kt
      exact k.ext o.1 o.2 gt.2.1 gt.2.2 kt.2.1 kt.2.2
    · intro j et hj
      subst et
      rw [gq_var] at gt
      refine ⟨by omega, k.part (ok_expose hc hj) ?_ ?_⟩
      · exact gq_lft (by decide) (by omega) _ (bnd (cxs Δ Γ0 (tAll B C)) j) j (Nat.le_refl _) (okc_bnd' hc hj) (hg j hj gt)
      · have q := kt_lft (kms_lft _ _) (k := j) (n := (cxs Δ Γ0 (tAll B C)).length - j) _ (bnd (cxs Δ Γ0 (tAll B C)) j) j (taur (hd C) (cxs Δ Γ0 (tAll B C))) (taur (hd C) (cxs Δ Γ0 (tAll B C))) (Nat.le_refl _) (Nat.le_refl _) (okc_bnd' hc hj) (fun i hi q => by rw [if_neg (by omega)]; exact q) (tqB_lft (ok_all.mp (okc_mid hc)).1 h16 (by have := cxs_len Δ Γ0 (tAll B C); omega)) (hk j hj gt)
        rw [show j + ((cxs Δ Γ0 (tAll B C)).length - j) = (cxs Δ Γ0 (tAll B C)).length by omega] at q
        exact q
    · intro f et tb
      subst et
      obtain ⟨oC, q⟩ := body Δ f k
      exact (ev_smallr e1 hC tb.1 oC q).1
  · subst et
    obtain ⟨oC, q⟩ := body Δ f k
    have ev := (ev_smallr (e := 1) (by decide) hC tk oC q).2
    obtain ⟨-, -, d⟩ := Dsm_num (e := 1) (upb Γ0 Δ B :: cxs Δ Γ0 (tAll B Dsm)) false (by decide)
    rw [up_Dsm, d]
    exact ev
theorem HKt.ov (e1 : 1 ≤ e) (H : HKt B C Γ0) : OVq e B C Dsm Γ0 := by
  have H' := H
  obtain ⟨⟨h16, hB⟩, hC, h0, hkB, hkC⟩ := H'
  refine ⟨⟨by unfold Dsm; exact ok_all.mpr ⟨rfl, rfl⟩, by unfold Dsm; rw [hd_all]; decide⟩, fun Δ hc => ?_⟩
  have K := Kt_KP (e := e) e1 H (cxs Δ Γ0 (tAll B C)).length
  refine ⟨_, K.1, K.2, ?_⟩
  have oA := okc_mid hc
  have oB := (ok_all.mp oA).1
  have oC := (ok_all.mp oA).2
  have le : (cxs Δ Γ0 (tAll B C)).length = Γ0.length + (Δ.length + 1) := by rw [cxs_len]; omega
  have agree : ∀ i, i < Γ0.length → taur (hd C) Γ0 i = true → taur (hd C) (cxs Δ Γ0 (tAll B C)) i = true := by
    intro i hi q
    unfold taur at q ⊢
    rw [cxs_lowb Δ i hi]
    exact q
  have base : Kt9 B C Γ0 (cxs Δ Γ0 (tAll B C)).length Δ tTop := by
    refine ⟨⟨by omega, Nat.le_refl _⟩, hc, ?_, ?_, rfl, gq_top, kt_top _ _⟩
    · intro j hj hp
      have hj0 : j < Γ0.length := by omega
      rw [Nat.min_eq_right (by omega)]
      exact gq5 _ _ j (Nat.le_refl _) (okc_bnd' hc hj) (Nat.le_refl _) (fun i hi => Or.inl (by omega))
    · intro j hj hp
      have hj0 : j < Γ0.length := by omega
      have ob := okc_bnd' hc hj
      rw [cxs_lowb Δ j hj0] at ob ⊢
      exact kt_more _ _ j _ _ (Nat.le_refl _) ob (fun i hi => agree i (by omega)) (h0 j hj0)
  have oUB : ok (cxs Δ Γ0 (tAll B C)).length (upb Γ0 Δ B) = true ∧ ok ((cxs Δ Γ0 (tAll B C)).length + 1) (upb Γ0 Δ C) = true := by
    have a := up_ok (B := B) (C := C) hc
    rw [upb_all] at a
    exact ok_all.mp a
  have gB : gq 5 Γ0.length (cxs Δ Γ0 (tAll B C)).length (upb Γ0 Δ B) = true := by
    refine gq_lft (by decide) (Nat.le_of_eq le) _ B _ (Nat.le_refl _) oB ?_
    rw [Nat.min_eq_right (by omega)]
    exact gq5 _ B _ (Nat.le_refl _) oB (Nat.le_refl _) (fun i hi => Or.inl hi)
  have gC : gq 5 Γ0.length (cxs Δ Γ0 (tAll B C)).length (upb Γ0 Δ C) = true := by
    refine gq_lft (by decide) (Nat.le_of_eq le) _ C _ (Nat.le_refl _) oC ?_
    rw [Nat.min_eq_right (by omega)]
    exact gq5 _ C _ (Nat.le_refl _) oC (by omega) (fun i hi => by omega)
  have kB := kt_lft (kms_lft _ _) (k := Γ0.length) (n := Δ.length + 1) _ B Γ0.length (taur (hd C) Γ0) (taur (hd C) (cxs Δ Γ0 (tAll B C))) (Nat.le_refl _) (Nat.le_refl _) oB (fun i hi q => by rw [if_neg (by omega)]; exact agree i hi q) (tqB_lft oB h16 (by omega)) hkB
  rw [← le] at kB
  have kC := kt_lft (kms_lft _ _) (k := Γ0.length) (n := Δ.length + 1) _ C (Γ0.length + 1) (updr (hd C) (taur (hd C) Γ0) Γ0.length B) (updr (hd C) (taur (hd C) (cxs Δ Γ0 (tAll B C))) (cxs Δ Γ0 (tAll B C)).length (upb Γ0 Δ B)) (Nat.le_refl _) (by omega) oC (fun i hi q => by
    unfold updr at q ⊢
    by_cases ei : i = Γ0.length
    · rw [if_pos ei] at q
      rw [if_pos (show Γ0.length ≤ i by omega), if_pos (by omega)]
      exact gk_lft oB q
    · rw [if_neg ei] at q
      have hi0 : i < Γ0.length := by omega
      rw [if_neg (show ¬ Γ0.length ≤ i by omega), if_neg (by omega)]
      exact agree i hi0 q) (tqB_lft oB h16 (by omega)) hkC
  rw [show Γ0.length + 1 + (Δ.length + 1) = (cxs Δ Γ0 (tAll B C)).length + 1 by omega] at kC
  exact base.ext oUB.1 oUB.2 gB gC kB kC
end PmHn
