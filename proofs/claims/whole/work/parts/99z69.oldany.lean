/-! OLD TYPES: inner schemes whose bound is that very type, which may hold schemes itself. -/
/-- codes of inner variables counted from the place -/
def nfx (D : Nat) (c : Int) : Int := if 16 + (D : Int) ≤ c then 15 + (D : Int) - c else c
def tqN (B : Ty) (d0 D : Nat) (a : Ty) : Bool := decide ((flat a).map (nfx D) = (flat B).map (nfx d0))
theorem nfx_hi {D : Nat} {c : Int} (h : 16 + (D : Int) ≤ c) : nfx D c = 15 + (D : Int) - c := by unfold nfx; rw [if_pos h]
theorem nfx_lo {D : Nat} {c : Int} (h : ¬ 16 + (D : Int) ≤ c) : nfx D c = c := by unfold nfx; rw [if_neg h]
theorem lfc_hi {k n : Nat} {c : Int} (h : 16 + (k : Int) ≤ c) : lfc k n c = c + (n : Int) := by unfold lfc; rw [if_pos (by omega)]
theorem lfc_lo {k n : Nat} {c : Int} (h : ¬ 16 + (k : Int) ≤ c) : lfc k n c = c := by unfold lfc; rw [if_neg (by omega)]
section PmHd9
variable {B : Ty} {d0 k n : Nat}
theorem tqN_lft (hk : d0 ≤ k + n) (a : Ty) (d : Nat) (kd : k ≤ d) (_ : ok d a = true) (h : tqN B d0 (d + n) (lft k n a) = true) : tqN B d0 d a = true := by
  unfold tqN at h ⊢
  rw [decide_eq_true_iff] at h ⊢
  rw [flat_lft, List.map_map] at h
  rw [← h]
  refine List.map_congr_left (fun c hc => ?_)
  have q : (nfx (d + n) ∘ lfc k n) c ∈ (flat B).map (nfx d0) := by
    rw [← h]
    exact List.mem_map_of_mem hc
  obtain ⟨c', -, e⟩ := List.mem_map.mp q
  show nfx d c = nfx (d + n) (lfc k n c)
  have e : nfx d0 c' = nfx (d + n) (lfc k n c) := e
  by_cases h1 : 16 + (d : Int) ≤ c
  · rw [lfc_hi (show 16 + (k : Int) ≤ c by omega), nfx_hi h1, nfx_hi (show 16 + ((d + n : Nat) : Int) ≤ c + (n : Int) by omega)]
    omega
  · by_cases h2 : 16 + (k : Int) ≤ c
    · exfalso
      rw [lfc_hi h2, nfx_lo (show ¬ 16 + ((d + n : Nat) : Int) ≤ c + (n : Int) by omega)] at e
      by_cases h3 : 16 + (d0 : Int) ≤ c'
      · rw [nfx_hi h3] at e; omega
      · rw [nfx_lo h3] at e; omega
    · rw [lfc_lo h2, nfx_lo h1, nfx_lo (show ¬ 16 + ((d + n : Nat) : Int) ≤ c by omega)]
theorem tqN_up {Γ0 Δ : List Ty} {C : Ty} : tqN B Γ0.length (cxs Δ Γ0 (tAll B C)).length (upb Γ0 Δ B) = true := by
  unfold tqN upb
  have le := cxs_len Δ Γ0 (tAll B C)
  rw [decide_eq_true_iff, flat_lft, List.map_map]
  refine List.map_congr_left (fun c _ => ?_)
  show nfx (cxs Δ Γ0 (tAll B C)).length (lfc Γ0.length (Δ.length + 1) c) = nfx Γ0.length c
  rw [le]
  by_cases h1 : 16 + (Γ0.length : Int) ≤ c
  · rw [lfc_hi h1, nfx_hi h1, nfx_hi (by omega)]
    omega
  · rw [lfc_lo h1, nfx_lo h1, nfx_lo (by omega)]
end PmHd9
def ku (m : Nat) (tq : Nat → Ty → Bool) (κ : Ty → Bool) : (Nat → Bool) → Nat → Ty → Bool
  | τ, D, .tag c (.append a b) => if c = 2 then ((!(tq D a)) || bdr κ (updr m τ D a) b) && (ku m tq κ τ D a && ku m tq κ (updr m τ D a) (D + 1) b) else ku m tq κ τ D a && ku m tq κ τ D b
  | τ, D, .append a b => ku m tq κ τ D a && ku m tq κ τ D b
  | _, _, _ => true
section PmHb9
variable {m : Nat} {tq : Nat → Ty → Bool} {κ : Ty → Bool}
theorem ku_top (τ : Nat → Bool) (D : Nat) : ku m tq κ τ D tTop = true := by simp [tTop, ku]
theorem ku_var (τ : Nat → Bool) (D k : Nat) : ku m tq κ τ D (tVar k) = true := by simp [tVar, ku]
theorem ku_nil (τ : Nat → Bool) (D : Nat) : ku m tq κ τ D .nil = true := by simp [ku]
theorem ku_fun {τ : Nat → Bool} {D : Nat} {a b : Ty} : ku m tq κ τ D (tFun a b) = true ↔ ku m tq κ τ D a = true ∧ ku m tq κ τ D b = true := by simp [tFun, ku]
theorem ku_all {τ : Nat → Bool} {D : Nat} {a b : Ty} : ku m tq κ τ D (tAll a b) = true ↔ (tq D a = true → bdr κ (updr m τ D a) b = true) ∧ ku m tq κ τ D a = true ∧ ku m tq κ (updr m τ D a) (D + 1) b = true := by
  simp only [tAll, ku, if_true, Bool.and_eq_true, Bool.or_eq_true, Bool.not_eq_true']
  constructor
  · rintro ⟨h1, h2⟩
    exact ⟨fun e => h1.resolve_left (fun n => by rw [e] at n; cases n), h2⟩
  · rintro ⟨h1, h2⟩
    refine ⟨?_, h2⟩
    by_cases e : tq D a = true
    · exact Or.inr (h1 e)
    · exact Or.inl (by simpa using e)
theorem ku_rec {τ : Nat → Bool} {D c : Nat} {x y z : Ty} : ku m tq κ τ D (tRec c x y z) = true ↔ ku m tq κ τ D x = true ∧ ku m tq κ τ D y = true ∧ ku m tq κ τ D z = true := by
  have e : ¬ 8 + c = 2 := by omega
  simp [tRec, ku, e]
theorem ku_lft {k n : Nat} (hκ : ∀ (t : Ty) (d : Nat), ok d t = true → hd t < 16 → κ (lft k n t) = κ t) : ∀ (f : Nat) (t : Ty) (D : Nat) (τ τ' : Nat → Bool), (flat t).length ≤ f → k ≤ D → ok D t = true → (∀ i, i < D → τ i = true → τ' (if k ≤ i then i + n else i) = true) → (∀ (a : Ty) (d : Nat), k ≤ d → ok d a = true → tq (d + n) (lft k n a) = true → tq d a = true) → ku m tq κ τ D t = true → ku m tq κ τ' (D + n) (lft k n t) = true
  | 0, t, D, _, _, hf, _, o, _, _, _ => by have := flat_pos o; omega
  | f + 1, t, D, τ, τ', hf, hk, o, hτ, h16, ht => by
    rcases ok_cases o with rfl | ⟨j, hj, rfl⟩ | ⟨a, b, rfl, ha, hb⟩ | ⟨a, b, rfl, ha, hb⟩ | ⟨c, x, y, z, hm, rfl, h0, h1, h2⟩
    · rw [lft_top]; exact ku_top _ _
    · rw [lft_var]
      split <;> exact ku_var _ _ _
    · rw [flat_fun, List.length_cons, List.length_append] at hf
      rw [ku_fun] at ht
      rw [lft_fun, ku_fun]
      exact ⟨ku_lft hκ f a D τ τ' (by omega) hk ha hτ h16 ht.1, ku_lft hκ f b D τ τ' (by omega) hk hb hτ h16 ht.2⟩
    · rw [flat_all, List.length_cons, List.length_append] at hf
      rw [ku_all] at ht
      rw [lft_all, ku_all]
      have hτ2 : ∀ i, i < D + 1 → updr m τ D a i = true → updr m τ' (D + n) (lft k n a) (if k ≤ i then i + n else i) = true := by
        intro i hi q
        unfold updr at q ⊢
        by_cases e : i = D
        · subst e
          rw [if_pos rfl] at q
          rw [if_pos hk, if_pos rfl]
          exact gk_lft ha q
        · rw [if_neg e] at q
          have q2 := hτ i (by omega) q
          rw [if_neg (by split <;> omega)]
          exact q2
      refine ⟨fun e => ?_, ku_lft hκ f a D τ τ' (by omega) hk ha hτ h16 ht.2.1, ?_⟩
      · have ea : tq D a = true := h16 a D hk ha e
        have q := ht.1 ea
        unfold bdr at q ⊢
        rw [Bool.or_eq_true] at q ⊢
        rcases q with q | q
        · left
          rw [decide_eq_true_iff] at q ⊢
          exact (hd_lft0 hb).1.mpr q
        · right
          by_cases v : 16 ≤ hd b
          · obtain ⟨j, hj, rfl⟩ := hd_is_var hb v
            rw [if_pos v, hd_var, show 16 + j - 16 = j by omega] at q
            have q2 := hτ2 j hj q
            rw [lft_var]
            by_cases e2 : k ≤ j
            · rw [if_pos e2] at q2 ⊢
              rw [hd_var, if_pos (by omega), show 16 + (j + n) - 16 = j + n by omega]
              exact q2
            · rw [if_neg e2] at q2 ⊢
              rw [hd_var, if_pos (by omega), show 16 + j - 16 = j by omega]
              exact q2
          · rw [if_neg v] at q
            have e2 := (hd_lft0 (k := k) (n := n) hb).2 (by omega)
            rw [e2, if_neg v, hκ b _ hb (by omega)]
            exact q
      · have q := ku_lft hκ f b (D + 1) (updr m τ D a) (updr m τ' (D + n) (lft k n a)) (by omega) (by omega) hb hτ2 h16 ht.2.2
        rw [show D + 1 + n = D + n + 1 by omega] at q
        exact q
    · rw [flat_rec, List.length_cons, List.length_append, List.length_append] at hf
      rw [ku_rec] at ht
      rw [lft_rec hm, ku_rec]
      have key : ∀ (i : Nat) (p : Ty), (flat p).length ≤ f → okl D c i p → ku m tq κ τ D p = true → ku m tq κ τ' (D + n) (lft k n p) = true := by
        intro i p hp ho hn
        unfold okl at ho
        by_cases hb : bit c i = true
        · rw [if_pos hb] at ho
          exact ku_lft hκ f p D τ τ' hp hk ho hτ h16 hn
        · rw [if_neg hb] at ho
          rw [ho]; exact ku_nil _ _
      exact ⟨key 0 x (by omega) h0 ht.1, key 1 y (by omega) h1 ht.2.1, key 2 z (by omega) h2 ht.2.2⟩
/-- where more bounds are known to be Top -/
theorem ku_more : ∀ (f : Nat) (t : Ty) (D : Nat) (τ τ' : Nat → Bool), (flat t).length ≤ f → ok D t = true → (∀ i, i < D → τ i = true → τ' i = true) → ku m tq κ τ D t = true → ku m tq κ τ' D t = true
  | 0, t, D, _, _, hf, o, _, _ => by have := flat_pos o; omega
  | f + 1, t, D, τ, τ', hf, o, hτ, ht => by
    rcases ok_cases o with rfl | ⟨j, hj, rfl⟩ | ⟨a, b, rfl, ha, hb⟩ | ⟨a, b, rfl, ha, hb⟩ | ⟨c, x, y, z, hm, rfl, h0, h1, h2⟩
    · exact ku_top _ _
    · exact ku_var _ _ _
    · rw [flat_fun, List.length_cons, List.length_append] at hf
      rw [ku_fun] at ht ⊢
      exact ⟨ku_more f a D τ τ' (by omega) ha hτ ht.1, ku_more f b D τ τ' (by omega) hb hτ ht.2⟩
    · rw [flat_all, List.length_cons, List.length_append] at hf
      rw [ku_all] at ht ⊢
      have hτ2 : ∀ i, i < D + 1 → updr m τ D a i = true → updr m τ' D a i = true := by
        intro i hi q
        unfold updr at q ⊢
        by_cases e : i = D
        · rw [if_pos e] at q ⊢; exact q
        · rw [if_neg e] at q ⊢
          exact hτ i (by omega) q
      refine ⟨fun e => ?_, ku_more f a D τ τ' (by omega) ha hτ ht.2.1, ku_more f b (D + 1) _ _ (by omega) hb hτ2 ht.2.2⟩
      have q := ht.1 e
      unfold bdr at q ⊢
      rw [Bool.or_eq_true] at q ⊢
      rcases q with q | q
      · exact Or.inl q
      · right
        by_cases v : 16 ≤ hd b
        · rw [if_pos v] at q ⊢
          obtain ⟨j, hj, rfl⟩ := hd_is_var hb v
          rw [hd_var, show 16 + j - 16 = j by omega] at q ⊢
          exact hτ2 j hj q
        · rw [if_neg v] at q ⊢; exact q
    · rw [flat_rec, List.length_cons, List.length_append, List.length_append] at hf
      rw [ku_rec] at ht ⊢
      have key : ∀ (i : Nat) (p : Ty), (flat p).length ≤ f → okl D c i p → ku m tq κ τ D p = true → ku m tq κ τ' D p = true := by
        intro i p hp ho hn
        unfold okl at ho
        by_cases hb : bit c i = true
        · rw [if_pos hb] at ho
          exact ku_more f p D τ τ' hp ho hτ hn
        · rw [if_neg hb] at ho
          rw [ho]; exact ku_nil _ _
      exact ⟨key 0 x (by omega) h0 ht.1, key 1 y (by omega) h1 ht.2.1, key 2 z (by omega) h2 ht.2.2⟩
end PmHb9
section PmHc9
variable {e : Nat} {B C : Ty} {Γ0 : List Ty}
/-- every inner scheme with that bound (in the body, the bound, the bounds before) has a body of another kind -/
def HKn (B C : Ty) (Γ0 : List Ty) : Prop := (True ∧ hd B < 16) ∧ (hd C ≠ 0 ∧ hd C < 16) ∧ (∀ j, j < Γ0.length → ku (hd C) (tqN B Γ0.length) (kms C) (taur (hd C) Γ0) j (bnd Γ0 j) = true) ∧ ku (hd C) (tqN B Γ0.length) (kms C) (taur (hd C) Γ0) Γ0.length B = true ∧ ku (hd C) (tqN B Γ0.length) (kms C) (updr (hd C) (taur (hd C) Γ0) Γ0.length B) (Γ0.length + 1) C = true
def Kn9 (B C : Ty) (Γ0 : List Ty) (l : Nat) (Δ : List Ty) (t : Ty) : Prop := (Γ0.length < l ∧ l ≤ (cxs Δ Γ0 (tAll B C)).length) ∧ okc (cxs Δ Γ0 (tAll B C)) ∧ gqc 5 Γ0.length l (cxs Δ Γ0 (tAll B C)) ∧ (∀ j, j < (cxs Δ Γ0 (tAll B C)).length → (j < Γ0.length ∨ l ≤ j) → ku (hd C) (tqN B Γ0.length) (kms C) (taur (hd C) (cxs Δ Γ0 (tAll B C))) j (bnd (cxs Δ Γ0 (tAll B C)) j) = true) ∧ ok (cxs Δ Γ0 (tAll B C)).length t = true ∧ gq 5 Γ0.length l t = true ∧ ku (hd C) (tqN B Γ0.length) (kms C) (taur (hd C) (cxs Δ Γ0 (tAll B C))) (cxs Δ Γ0 (tAll B C)).length t = true
/-- one binder more, that is old -/
theorem Kn9.ext {l : Nat} {Δ : List Ty} {a b t : Ty} (k : Kn9 B C Γ0 l Δ t) (oa : ok (cxs Δ Γ0 (tAll B C)).length a = true) (ob : ok ((cxs Δ Γ0 (tAll B C)).length + 1) b = true) (ga : gq 5 Γ0.length l a = true) (gb : gq 5 Γ0.length l b = true) (ka : ku (hd C) (tqN B Γ0.length) (kms C) (taur (hd C) (cxs Δ Γ0 (tAll B C))) (cxs Δ Γ0 (tAll B C)).length a = true) (kb : ku (hd C) (tqN B Γ0.length) (kms C) (updr (hd C) (taur (hd C) (cxs Δ Γ0 (tAll B C))) (cxs Δ Γ0 (tAll B C)).length a) ((cxs Δ Γ0 (tAll B C)).length + 1) b = true) : Kn9 B C Γ0 l (a :: Δ) b := by
  obtain ⟨⟨l1, l2⟩, hc, hg, hk, -, -, -⟩ := k
  have le : (cxs (a :: Δ) Γ0 (tAll B C)).length = (cxs Δ Γ0 (tAll B C)).length + 1 := rfl
  refine ⟨⟨l1, by rw [le]; omega⟩, ⟨oa, hc⟩, ?_, ?_, ob, gb, ?_⟩
  · intro j hj hp
    show gq 5 Γ0.length (min l j) (if j = (cxs Δ Γ0 (tAll B C)).length then a else bnd (cxs Δ Γ0 (tAll B C)) j) = true
    by_cases ej : j = (cxs Δ Γ0 (tAll B C)).length
    · rw [if_pos ej, ej, Nat.min_eq_left l2]; exact ga
    · rw [if_neg ej]
      exact hg j (by rw [le] at hj; omega) hp
  · intro j hj hp
    have agree : ∀ i, i < (cxs Δ Γ0 (tAll B C)).length → taur (hd C) (cxs Δ Γ0 (tAll B C)) i = true → taur (hd C) (cxs (a :: Δ) Γ0 (tAll B C)) i = true := by
      intro i hi q
      have q2 := taur_cons (m := hd C) (Γ := cxs Δ Γ0 (tAll B C)) (a := a) i
      show taur (hd C) (a :: cxs Δ Γ0 (tAll B C)) i = true
      rw [q2]
      unfold updr
      rw [if_neg (by omega)]
      exact q
    show ku (hd C) (tqN B Γ0.length) (kms C) (taur (hd C) (cxs (a :: Δ) Γ0 (tAll B C))) j (if j = (cxs Δ Γ0 (tAll B C)).length then a else bnd (cxs Δ Γ0 (tAll B C)) j) = true
    by_cases ej : j = (cxs Δ Γ0 (tAll B C)).length
    · rw [if_pos ej, ej]
      exact ku_more _ a _ _ _ (Nat.le_refl _) oa agree ka
    · rw [if_neg ej]
      have hj' : j < (cxs Δ Γ0 (tAll B C)).length := by rw [le] at hj; omega
      exact ku_more _ _ j _ _ (Nat.le_refl _) (okc_bnd' hc hj') (fun i hi => agree i (by omega)) (hk j hj' hp)
  · exact ku_more _ b _ _ _ (Nat.le_refl _) ob (fun i _ q => by
      have q2 := taur_cons (m := hd C) (Γ := cxs Δ Γ0 (tAll B C)) (a := a) i
      show taur (hd C) (a :: cxs Δ Γ0 (tAll B C)) i = true
      rw [q2]; exact q) kb
theorem Kn9.part {l : Nat} {Δ : List Ty} {t b : Ty} (k : Kn9 B C Γ0 l Δ t) (ob : ok (cxs Δ Γ0 (tAll B C)).length b = true) (gb : gq 5 Γ0.length l b = true) (kb : ku (hd C) (tqN B Γ0.length) (kms C) (taur (hd C) (cxs Δ Γ0 (tAll B C))) (cxs Δ Γ0 (tAll B C)).length b = true) : Kn9 B C Γ0 l Δ b := ⟨k.1, k.2.1, k.2.2.1, k.2.2.2.1, ob, gb, kb⟩
theorem Kn_KP (e1 : 1 ≤ e) (H : HKn B C Γ0) (l : Nat) : KPc e B C Dsm Γ0 (Kn9 B C Γ0 l) ∧ KGc B C Dsm Γ0 (Kn9 B C Γ0 l) := by
  obtain ⟨⟨h16, hB⟩, hC, -, -, -⟩ := H
  have body : ∀ Δ f, Kn9 B C Γ0 l Δ (tAll (upb Γ0 Δ B) f) → ok (Γ0.length + 1) C = true ∧ bdr (kms C) (updr (hd C) (taur (hd C) (cxs Δ Γ0 (tAll B C))) (cxs Δ Γ0 (tAll B C)).length (upb Γ0 Δ B)) f = true := by
    intro Δ f k
    obtain ⟨-, hc, -, -, -, -, kt⟩ := k
    have oA := okc_mid hc
    refine ⟨(ok_all.mp oA).2, (ku_all.mp kt).1 ?_⟩
    exact tqN_up
  refine ⟨⟨⟨by unfold Dsm; exact ok_all.mpr ⟨rfl, rfl⟩, by unfold Dsm; rw [hd_all]; decide⟩, fun Δ t k => ?_⟩, fun Δ t k f et tk => ?_⟩
  · have k' := k
    obtain ⟨⟨l1, l2⟩, hc, hg, hk, ot, gt, kt⟩ := k'
    refine ⟨?_, ?_, ?_, ?_, ?_⟩
    · intro a b et
      subst et
      have o := ok_fun.mp ot
      rw [gq_fun] at gt
      rw [ku_fun] at kt
      exact ⟨k.part o.1 gt.1 kt.1, k.part o.2 gt.2 kt.2⟩
    · intro m x y z hm et
      subst et
      have o := (ok_rec hm).mp ot
      rw [gq_rec] at gt
      rw [ku_rec] at kt
      exact ⟨fun b => k.part (okl_on o.1 (bit_iff.mp b)) gt.1 kt.1, fun b => k.part (okl_on o.2.1 (bit_iff.mp b)) gt.2.1 kt.2.1, fun b => k.part (okl_on o.2.2 (bit_iff.mp b)) gt.2.2 kt.2.2⟩
    · intro a b et
      subst et
      have o := ok_all.mp ot
      rw [gq_all] at gt
      rw [ku_all] at kt
      exact k.ext o.1 o.2 gt.2.1 gt.2.2 kt.2.1 kt.2.2
    · intro j et hj
      subst et
      rw [gq_var] at gt
      refine ⟨by omega, k.part (ok_expose hc hj) ?_ ?_⟩
      · exact gq_lft (by decide) (by omega) _ (bnd (cxs Δ Γ0 (tAll B C)) j) j (Nat.le_refl _) (okc_bnd' hc hj) (hg j hj gt)
      · have q := ku_lft (kms_lft _ _) (k := j) (n := (cxs Δ Γ0 (tAll B C)).length - j) _ (bnd (cxs Δ Γ0 (tAll B C)) j) j (taur (hd C) (cxs Δ Γ0 (tAll B C))) (taur (hd C) (cxs Δ Γ0 (tAll B C))) (Nat.le_refl _) (Nat.le_refl _) (okc_bnd' hc hj) (fun i hi q => by rw [if_neg (by omega)]; exact q) (tqN_lft (by have := cxs_len Δ Γ0 (tAll B C); omega)) (hk j hj gt)
        rw [show j + ((cxs Δ Γ0 (tAll B C)).length - j) = (cxs Δ Γ0 (tAll B C)).length by omega] at q
        exact q
    · intro f et tb
      subst et
      obtain ⟨oC, q⟩ := body Δ f k
      exact (ev_smallr e1 hC tb.1 oC q).1
  · subst et
    obtain ⟨oC, q⟩ := body Δ f k
    have ev := (ev_smallr (e := 1) (by decide) hC tk oC q).2
    obtain ⟨-, -, d⟩ := Dsm_num (e := 1) (upb Γ0 Δ B :: cxs Δ Γ0 (tAll B Dsm)) false (by decide)
    rw [up_Dsm, d]
    exact ev
theorem HKn.ov (e1 : 1 ≤ e) (H : HKn B C Γ0) : OVq e B C Dsm Γ0 := by
  have H' := H
  obtain ⟨⟨h16, hB⟩, hC, h0, hkB, hkC⟩ := H'
  refine ⟨⟨by unfold Dsm; exact ok_all.mpr ⟨rfl, rfl⟩, by unfold Dsm; rw [hd_all]; decide⟩, fun Δ hc => ?_⟩
  have K := Kn_KP (e := e) e1 H (cxs Δ Γ0 (tAll B C)).length
  refine ⟨_, K.1, K.2, ?_⟩
  have oA := okc_mid hc
  have oB := (ok_all.mp oA).1
  have oC := (ok_all.mp oA).2
  have le : (cxs Δ Γ0 (tAll B C)).length = Γ0.length + (Δ.length + 1) := by rw [cxs_len]; omega
  have agree : ∀ i, i < Γ0.length → taur (hd C) Γ0 i = true → taur (hd C) (cxs Δ Γ0 (tAll B C)) i = true := by
    intro i hi q
    unfold taur at q ⊢
    rw [cxs_lowb Δ i hi]
    exact q
  have base : Kn9 B C Γ0 (cxs Δ Γ0 (tAll B C)).length Δ tTop := by
    refine ⟨⟨by omega, Nat.le_refl _⟩, hc, ?_, ?_, rfl, gq_top, ku_top _ _⟩
    · intro j hj hp
      have hj0 : j < Γ0.length := by omega
      rw [Nat.min_eq_right (by omega)]
      exact gq5 _ _ j (Nat.le_refl _) (okc_bnd' hc hj) (Nat.le_refl _) (fun i hi => Or.inl (by omega))
    · intro j hj hp
      have hj0 : j < Γ0.length := by omega
      have ob := okc_bnd' hc hj
      rw [cxs_lowb Δ j hj0] at ob ⊢
      exact ku_more _ _ j _ _ (Nat.le_refl _) ob (fun i hi => agree i (by omega)) (h0 j hj0)
  have oUB : ok (cxs Δ Γ0 (tAll B C)).length (upb Γ0 Δ B) = true ∧ ok ((cxs Δ Γ0 (tAll B C)).length + 1) (upb Γ0 Δ C) = true := by
    have a := up_ok (B := B) (C := C) hc
    rw [upb_all] at a
    exact ok_all.mp a
  have gB : gq 5 Γ0.length (cxs Δ Γ0 (tAll B C)).length (upb Γ0 Δ B) = true := by
    refine gq_lft (by decide) (Nat.le_of_eq le) _ B _ (Nat.le_refl _) oB ?_
    rw [Nat.min_eq_right (by omega)]
    exact gq5 _ B _ (Nat.le_refl _) oB (Nat.le_refl _) (fun i hi => Or.inl hi)
  have gC : gq 5 Γ0.length (cxs Δ Γ0 (tAll B C)).length (upb Γ0 Δ C) = true := by
    refine gq_lft (by decide) (Nat.le_of_eq le) _ C _ (Nat.le_refl _) oC ?_
    rw [Nat.min_eq_right (by omega)]
    exact gq5 _ C _ (Nat.le_refl _) oC (by omega) (fun i hi => by omega)
  have kB := ku_lft (kms_lft _ _) (k := Γ0.length) (n := Δ.length + 1) _ B Γ0.length (taur (hd C) Γ0) (taur (hd C) (cxs Δ Γ0 (tAll B C))) (Nat.le_refl _) (Nat.le_refl _) oB (fun i hi q => by rw [if_neg (by omega)]; exact agree i hi q) (tqN_lft (by omega)) hkB
  rw [← le] at kB
  have kC := ku_lft (kms_lft _ _) (k := Γ0.length) (n := Δ.length + 1) _ C (Γ0.length + 1) (updr (hd C) (taur (hd C) Γ0) Γ0.length B) (updr (hd C) (taur (hd C) (cxs Δ Γ0 (tAll B C))) (cxs Δ Γ0 (tAll B C)).length (upb Γ0 Δ B)) (Nat.le_refl _) (by omega) oC (fun i hi q => by
    unfold updr at q ⊢
    by_cases ei : i = Γ0.length
    · rw [if_pos ei] at q
      rw [if_pos (show Γ0.length ≤ i by omega), if_pos (by omega)]
      exact gk_lft oB q
    · rw [if_neg ei] at q
      have hi0 : i < Γ0.length := by omega
      rw [if_neg (show ¬ Γ0.length ≤ i by omega), if_neg (by omega)]
      exact agree i hi0 q) (tqN_lft (by omega)) hkC
  rw [show Γ0.length + 1 + (Δ.length + 1) = (cxs Δ Γ0 (tAll B C)).length + 1 by omega] at kC
  exact base.ext oUB.1 oUB.2 gB gC kB kC
end PmHc9
/-- a scheme with that very bound stands in it -/
def sN (B : Ty) (d0 : Nat) : Nat → Ty → Bool
  | D, .tag c (.append a b) => if c = 2 then tqN B d0 D a || (sN B d0 D a || sN B d0 (D + 1) b) else sN B d0 D a || sN B d0 D b
  | D, .append a b => sN B d0 D a || sN B d0 D b
  | _, _ => false
section PmHe9
variable {B : Ty} {m d0 : Nat} {κ : Ty → Bool}
theorem sN_fun (D : Nat) (a b : Ty) : sN B d0 D (tFun a b) = (sN B d0 D a || sN B d0 D b) := by simp [tFun, sN]
theorem sN_all (D : Nat) (a b : Ty) : sN B d0 D (tAll a b) = (tqN B d0 D a || (sN B d0 D a || sN B d0 (D + 1) b)) := by simp [tAll, sN]
theorem sN_rec {c : Nat} (D : Nat) (x y z : Ty) : sN B d0 D (tRec c x y z) = (sN B d0 D x || (sN B d0 D y || sN B d0 D z)) := by
  have e : ¬ 8 + c = 2 := by omega
  simp [tRec, sN, e]
theorem ku_no : ∀ (f : Nat) (t : Ty) (D : Nat) (τ : Nat → Bool), (flat t).length ≤ f → ok D t = true → sN B d0 D t = false → ku m (tqN B d0) κ τ D t = true
  | 0, t, D, τ, hf, o, _ => by have := flat_pos o; omega
  | f + 1, t, D, τ, hf, o, hn => by
    rcases ok_cases o with rfl | ⟨j, hj, rfl⟩ | ⟨a, c, rfl, ha, hb⟩ | ⟨a, c, rfl, ha, hb⟩ | ⟨m', x, y, z, hm, rfl, h0, h1, h2⟩
    · exact ku_top _ _
    · exact ku_var _ _ _
    · rw [flat_fun, List.length_cons, List.length_append] at hf
      rw [sN_fun, Bool.or_eq_false_iff] at hn
      exact ku_fun.mpr ⟨ku_no f a D τ (by omega) ha hn.1, ku_no f c D τ (by omega) hb hn.2⟩
    · rw [flat_all, List.length_cons, List.length_append] at hf
      rw [sN_all, Bool.or_eq_false_iff, Bool.or_eq_false_iff] at hn
      refine ku_all.mpr ⟨fun e => ?_, ku_no f a D τ (by omega) ha hn.2.1, ku_no f c (D + 1) _ (by omega) hb hn.2.2⟩
      rw [hn.1] at e
      cases e
    · rw [flat_rec, List.length_cons, List.length_append, List.length_append] at hf
      rw [sN_rec, Bool.or_eq_false_iff, Bool.or_eq_false_iff] at hn
      have key : ∀ (i : Nat) (p : Ty), (flat p).length ≤ f → okl D m' i p → sN B d0 D p = false → ku m (tqN B d0) κ τ D p = true := by
        intro i p hp ho hs
        unfold okl at ho
        by_cases hb : bit m' i = true
        · rw [if_pos hb] at ho
          exact ku_no f p D τ hp ho hs
        · rw [if_neg hb] at ho
          rw [ho]; exact ku_nil _ _
      exact ku_rec.mpr ⟨key 0 x (by omega) h0 hn.1, key 1 y (by omega) h1 hn.2.1, key 2 z (by omega) h2 hn.2.2⟩
/-- what is no longer than the bound does not hold it -/
theorem sN_short : ∀ (f : Nat) (t : Ty) (D : Nat), (flat t).length ≤ f → ok D t = true → (flat t).length ≤ (flat B).length → sN B d0 D t = false
  | 0, t, D, hf, o, _ => by have := flat_pos o; omega
  | f + 1, t, D, hf, o, hl => by
    rcases ok_cases o with rfl | ⟨j, hj, rfl⟩ | ⟨a, c, rfl, ha, hb⟩ | ⟨a, c, rfl, ha, hb⟩ | ⟨m', x, y, z, hm, rfl, h0, h1, h2⟩
    · simp [tTop, sN]
    · simp [tVar, sN]
    · rw [flat_fun, List.length_cons, List.length_append] at hf hl
      rw [sN_fun, sN_short f a D (by omega) ha (by omega), sN_short f c D (by omega) hb (by omega)]
      rfl
    · rw [flat_all, List.length_cons, List.length_append] at hf hl
      have e : tqN B d0 D a = false := by
        unfold tqN
        rw [decide_eq_false_iff_not]
        intro e
        have := congrArg List.length e
        rw [List.length_map, List.length_map] at this
        omega
      rw [sN_all, e, sN_short f a D (by omega) ha (by omega), sN_short f c (D + 1) (by omega) hb (by omega)]
      rfl
    · rw [flat_rec, List.length_cons, List.length_append, List.length_append] at hf hl
      have key : ∀ (i : Nat) (p : Ty), (flat p).length ≤ f → okl D m' i p → (flat p).length ≤ (flat B).length → sN B d0 D p = false := by
        intro i p hp ho hs
        unfold okl at ho
        by_cases hb : bit m' i = true
        · rw [if_pos hb] at ho
          exact sN_short f p D hp ho hs
        · rw [if_neg hb] at ho
          rw [ho]; simp [sN]
      rw [sN_rec, key 0 x (by omega) h0 (by omega), key 1 y (by omega) h1 (by omega), key 2 z (by omega) h2 (by omega)]
      rfl
/-- so the body may be replaced -/
theorem HKn_no {C : Ty} {Γ0 : List Ty} (hc : okc Γ0) (oA : ok Γ0.length (tAll B C) = true) (hB : hd B < 16) (hC : hd C ≠ 0 ∧ hd C < 16) (h0 : ∀ j, j < Γ0.length → sN B Γ0.length j (bnd Γ0 j) = false) (h1 : sN B Γ0.length (Γ0.length + 1) C = false) : OVq 1 B C Dsm Γ0 := by
  have oB := (ok_all.mp oA).1
  have oC := (ok_all.mp oA).2
  exact HKn.ov (Nat.le_refl _) ⟨⟨trivial, hB⟩, hC, fun j hj => ku_no _ _ j _ (Nat.le_refl _) (okc_bnd' hc hj) (h0 j hj), ku_no _ B _ _ (Nat.le_refl _) oB (sN_short _ B _ (Nat.le_refl _) oB (Nat.le_refl _)), ku_no _ C _ _ (Nat.le_refl _) oC h1⟩
end PmHe9
