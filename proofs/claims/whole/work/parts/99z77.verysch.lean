/-! OLD TYPES: every inner scheme with the very bound is the very scheme (no binder before). -/
theorem tqN_lf {X s : Ty} {k n d : Nat} (kd : k ≤ d) (h : tqN X 0 d s = true) : tqN X 0 (d + n) (lft k n s) = true := by
  unfold tqN at h ⊢
  rw [decide_eq_true_iff] at h ⊢
  rw [flat_lft, List.map_map, ← h]
  refine List.map_congr_left (fun c hc => ?_)
  have q : nfx d c ∈ (flat X).map (nfx 0) := by
    rw [← h]
    exact List.mem_map_of_mem hc
  obtain ⟨c', -, e⟩ := List.mem_map.mp q
  show nfx (d + n) (lfc k n c) = nfx d c
  by_cases h1 : 16 + (d : Int) ≤ c
  · rw [lfc_hi (show 16 + (k : Int) ≤ c by omega), nfx_hi h1, nfx_hi (show 16 + ((d + n : Nat) : Int) ≤ c + (n : Int) by omega)]
    omega
  · rw [nfx_lo h1] at e ⊢
    have c16 : c < 16 := by
      by_cases h3 : 16 + ((0 : Nat) : Int) ≤ c'
      · rw [nfx_hi h3] at e; omega
      · rw [nfx_lo h3] at e; omega
    rw [lfc_lo (show ¬ 16 + (k : Int) ≤ c by omega), nfx_lo (show ¬ 16 + ((d + n : Nat) : Int) ≤ c by omega)]
theorem nfx_inj {D : Nat} {c c' : Int} (h0 : 0 ≤ c) (h1 : 0 ≤ c') (h : nfx D c = nfx D c') : c = c' := by
  by_cases a : 16 + (D : Int) ≤ c
  · by_cases b : 16 + (D : Int) ≤ c'
    · rw [nfx_hi a, nfx_hi b] at h; omega
    · rw [nfx_hi a, nfx_lo b] at h; omega
  · by_cases b : 16 + (D : Int) ≤ c'
    · rw [nfx_lo a, nfx_hi b] at h; omega
    · rw [nfx_lo a, nfx_lo b] at h; exact h
theorem map_nfx {D : Nat} : ∀ (l l' : List Int), (∀ c ∈ l, 0 ≤ c) → (∀ c ∈ l', 0 ≤ c) → l.map (nfx D) = l'.map (nfx D) → l = l'
  | [], [], _, _, _ => rfl
  | [], _ :: _, _, _, h => by cases h
  | _ :: _, [], _, _, h => by cases h
  | a :: l, b :: l', h0, h1, h => by
    rw [List.map_cons, List.map_cons] at h
    injection h with h2 h3
    rw [nfx_inj (h0 a (List.mem_cons_self ..)) (h1 b (List.mem_cons_self ..)) h2, map_nfx l l' (fun c hc => h0 c (List.mem_cons_of_mem _ hc)) (fun c hc => h1 c (List.mem_cons_of_mem _ hc)) h3]
def kv9 (B σ : Ty) : Nat → Ty → Bool
  | D, .tag c (.append a b) => if c = 2 then ((!(tqN B 0 D a)) || tqN σ 0 D (tAll a b)) && (kv9 B σ D a && kv9 B σ (D + 1) b) else kv9 B σ D a && kv9 B σ D b
  | D, .append a b => kv9 B σ D a && kv9 B σ D b
  | _, _ => true
section PmIh
variable {B σ : Ty}
theorem kv9_top (D : Nat) : kv9 B σ D tTop = true := by simp [tTop, kv9]
theorem kv9_var (D k : Nat) : kv9 B σ D (tVar k) = true := by simp [tVar, kv9]
theorem kv9_nil (D : Nat) : kv9 B σ D .nil = true := by simp [kv9]
theorem kv9_fun {D : Nat} {a b : Ty} : kv9 B σ D (tFun a b) = true ↔ kv9 B σ D a = true ∧ kv9 B σ D b = true := by simp [tFun, kv9]
theorem kv9_all {D : Nat} {a b : Ty} : kv9 B σ D (tAll a b) = true ↔ (tqN B 0 D a = true → tqN σ 0 D (tAll a b) = true) ∧ kv9 B σ D a = true ∧ kv9 B σ (D + 1) b = true := by
  have e : kv9 B σ D (tAll a b) = (((!(tqN B 0 D a)) || tqN σ 0 D (tAll a b)) && (kv9 B σ D a && kv9 B σ (D + 1) b)) := by
    show kv9 B σ D (.tag 2 (.append a b)) = _
    rw [kv9, if_pos rfl]
  rw [e, Bool.and_eq_true, Bool.and_eq_true, Bool.or_eq_true, Bool.not_eq_true']
  constructor
  · rintro ⟨h1, h2⟩
    exact ⟨fun q => h1.resolve_left (fun n => by rw [q] at n; cases n), h2⟩
  · rintro ⟨h1, h2⟩
    refine ⟨?_, h2⟩
    by_cases q : tqN B 0 D a = true
    · exact Or.inr (h1 q)
    · exact Or.inl (by simpa using q)
theorem kv9_rec {D c : Nat} {x y z : Ty} : kv9 B σ D (tRec c x y z) = true ↔ kv9 B σ D x = true ∧ kv9 B σ D y = true ∧ kv9 B σ D z = true := by
  have e : ¬ 8 + c = 2 := by omega
  simp [tRec, kv9, e]
theorem kv9_lft {k n : Nat} : ∀ (f : Nat) (t : Ty) (D : Nat), (flat t).length ≤ f → k ≤ D → ok D t = true → kv9 B σ D t = true → kv9 B σ (D + n) (lft k n t) = true
  | 0, t, D, hf, _, o, _ => by have := flat_pos o; omega
  | f + 1, t, D, hf, hk, o, ht => by
    rcases ok_cases o with rfl | ⟨j, hj, rfl⟩ | ⟨a, b, rfl, ha, hb⟩ | ⟨a, b, rfl, ha, hb⟩ | ⟨c, x, y, z, hm, rfl, h0, h1, h2⟩
    · rw [lft_top]; exact kv9_top _
    · rw [lft_var]
      split <;> exact kv9_var _ _
    · rw [flat_fun, List.length_cons, List.length_append] at hf
      rw [kv9_fun] at ht
      rw [lft_fun, kv9_fun]
      exact ⟨kv9_lft f a D (by omega) hk ha ht.1, kv9_lft f b D (by omega) hk hb ht.2⟩
    · rw [flat_all, List.length_cons, List.length_append] at hf
      rw [kv9_all] at ht
      have e := lft_all k n a b
      rw [e, kv9_all]
      refine ⟨fun q => ?_, kv9_lft f a D (by omega) hk ha ht.2.1, ?_⟩
      · rw [← e]
        exact tqN_lf hk (ht.1 (tqN_lft (Nat.zero_le _) a D hk ha q))
      · have q := kv9_lft (k := k) (n := n) f b (D + 1) (by omega) (by omega) hb ht.2.2
        rw [show D + 1 + n = D + n + 1 by omega] at q
        exact q
    · rw [flat_rec, List.length_cons, List.length_append, List.length_append] at hf
      rw [kv9_rec] at ht
      rw [lft_rec hm, kv9_rec]
      have key : ∀ (i : Nat) (p : Ty), (flat p).length ≤ f → okl D c i p → kv9 B σ D p = true → kv9 B σ (D + n) (lft k n p) = true := by
        intro i p hp ho hn
        unfold okl at ho
        by_cases hb : bit c i = true
        · rw [if_pos hb] at ho
          exact kv9_lft f p D hp hk ho hn
        · rw [if_neg hb] at ho
          rw [ho]; exact kv9_nil _
      exact ⟨key 0 x (by omega) h0 ht.1, key 1 y (by omega) h1 ht.2.1, key 2 z (by omega) h2 ht.2.2⟩
/-- what holds no scheme with that bound -/
theorem kv9_no : ∀ (f : Nat) (t : Ty) (D : Nat), (flat t).length ≤ f → ok D t = true → sN B 0 D t = false → kv9 B σ D t = true
  | 0, t, D, hf, o, _ => by have := flat_pos o; omega
  | f + 1, t, D, hf, o, hn => by
    rcases ok_cases o with rfl | ⟨j, hj, rfl⟩ | ⟨a, c, rfl, ha, hb⟩ | ⟨a, c, rfl, ha, hb⟩ | ⟨m', x, y, z, hm, rfl, h0, h1, h2⟩
    · exact kv9_top _
    · exact kv9_var _ _
    · rw [flat_fun, List.length_cons, List.length_append] at hf
      rw [sN_fun, Bool.or_eq_false_iff] at hn
      exact kv9_fun.mpr ⟨kv9_no f a D (by omega) ha hn.1, kv9_no f c D (by omega) hb hn.2⟩
    · rw [flat_all, List.length_cons, List.length_append] at hf
      rw [sN_all, Bool.or_eq_false_iff, Bool.or_eq_false_iff] at hn
      refine kv9_all.mpr ⟨fun e => ?_, kv9_no f a D (by omega) ha hn.2.1, kv9_no f c (D + 1) (by omega) hb hn.2.2⟩
      rw [hn.1] at e
      cases e
    · rw [flat_rec, List.length_cons, List.length_append, List.length_append] at hf
      rw [sN_rec, Bool.or_eq_false_iff, Bool.or_eq_false_iff] at hn
      have key : ∀ (i : Nat) (p : Ty), (flat p).length ≤ f → okl D m' i p → sN B 0 D p = false → kv9 B σ D p = true := by
        intro i p hp ho hs
        unfold okl at ho
        by_cases hb : bit m' i = true
        · rw [if_pos hb] at ho
          exact kv9_no f p D hp ho hs
        · rw [if_neg hb] at ho
          rw [ho]; exact kv9_nil _
      exact kv9_rec.mpr ⟨key 0 x (by omega) h0 hn.1, key 1 y (by omega) h1 hn.2.1, key 2 z (by omega) h2 hn.2.2⟩
end PmIh
def Ky9 (B σ β : Ty) (l : Nat) (Δ : List Ty) (t : Ty) : Prop := (0 < l ∧ l ≤ (cxs Δ [] β).length) ∧ okc (cxs Δ [] β) ∧ gqc 5 0 l (cxs Δ [] β) ∧ (∀ j, j < (cxs Δ [] β).length → l ≤ j → kv9 B σ j (bnd (cxs Δ [] β) j) = true) ∧ ok (cxs Δ [] β).length t = true ∧ gq 5 0 l t = true ∧ kv9 B σ (cxs Δ [] β).length t = true
/-- closed under what a walk meets -/
def KCy (β : Ty) (Γ0 : List Ty) (Kp : List Ty → Ty → Prop) : Prop := ∀ Δ t, Kp Δ t → (∀ a b, t = tFun a b → Kp Δ a ∧ Kp Δ b) ∧ (∀ m x y z, m < 8 → t = tRec m x y z → (bit m 0 = true → Kp Δ x) ∧ (bit m 1 = true → Kp Δ y) ∧ (bit m 2 = true → Kp Δ z)) ∧ (∀ a b, t = tAll a b → Kp (a :: Δ) b) ∧ (∀ j, t = tVar j → j < (cxs Δ Γ0 β).length → j ≠ Γ0.length ∧ Kp Δ (lft j ((cxs Δ Γ0 β).length - j) (bnd (cxs Δ Γ0 β) j)))
section PmIi
variable {B σ β : Ty} {l : Nat}
theorem Ky9.ext {Δ : List Ty} {a b t : Ty} (k : Ky9 B σ β l Δ t) (oa : ok (cxs Δ [] β).length a = true) (ob : ok ((cxs Δ [] β).length + 1) b = true) (ga : gq 5 0 l a = true) (gb : gq 5 0 l b = true) (ka : kv9 B σ (cxs Δ [] β).length a = true) (kb : kv9 B σ ((cxs Δ [] β).length + 1) b = true) : Ky9 B σ β l (a :: Δ) b := by
  obtain ⟨⟨l1, l2⟩, hc, hg, hk, -, -, -⟩ := k
  have le : (cxs (a :: Δ) [] β).length = (cxs Δ [] β).length + 1 := rfl
  refine ⟨⟨l1, by rw [le]; omega⟩, ⟨oa, hc⟩, ?_, ?_, ob, gb, kb⟩
  · intro j hj hp
    show gq 5 0 (min l j) (if j = (cxs Δ [] β).length then a else bnd (cxs Δ [] β) j) = true
    by_cases ej : j = (cxs Δ [] β).length
    · rw [if_pos ej, ej, Nat.min_eq_left l2]; exact ga
    · rw [if_neg ej]
      exact hg j (by rw [le] at hj; omega) hp
  · intro j hj hp
    show kv9 B σ j (if j = (cxs Δ [] β).length then a else bnd (cxs Δ [] β) j) = true
    by_cases ej : j = (cxs Δ [] β).length
    · rw [if_pos ej, ej]; exact ka
    · rw [if_neg ej]
      exact hk j (by rw [le] at hj; omega) hp
theorem Ky9.part {Δ : List Ty} {t b : Ty} (k : Ky9 B σ β l Δ t) (ob : ok (cxs Δ [] β).length b = true) (gb : gq 5 0 l b = true) (kb : kv9 B σ (cxs Δ [] β).length b = true) : Ky9 B σ β l Δ b := ⟨k.1, k.2.1, k.2.2.1, k.2.2.2.1, ob, gb, kb⟩
theorem Ky9.cl : KCy β [] (Ky9 B σ β l) := by
  intro Δ t k
  have k' := k
  obtain ⟨⟨l1, l2⟩, hc, hg, hk, ot, gt, kt⟩ := k'
  refine ⟨?_, ?_, ?_, ?_⟩
  · intro a b et
    subst et
    have o := ok_fun.mp ot
    rw [gq_fun] at gt
    rw [kv9_fun] at kt
    exact ⟨k.part o.1 gt.1 kt.1, k.part o.2 gt.2 kt.2⟩
  · intro m x y z hm et
    subst et
    have o := (ok_rec hm).mp ot
    rw [gq_rec] at gt
    rw [kv9_rec] at kt
    exact ⟨fun b => k.part (okl_on o.1 (bit_iff.mp b)) gt.1 kt.1, fun b => k.part (okl_on o.2.1 (bit_iff.mp b)) gt.2.1 kt.2.1, fun b => k.part (okl_on o.2.2 (bit_iff.mp b)) gt.2.2 kt.2.2⟩
  · intro a b et
    subst et
    have o := ok_all.mp ot
    rw [gq_all] at gt
    rw [kv9_all] at kt
    exact k.ext o.1 o.2 gt.2.1 gt.2.2 kt.2.1 kt.2.2
  · intro j et hj
    subst et
    rw [gq_var] at gt
    have lj : l ≤ j := gt.resolve_left (by omega)
    refine ⟨by show j ≠ 0; omega, k.part (ok_expose hc hj) ?_ ?_⟩
    · exact gq_lft (by decide) (by omega) _ (bnd (cxs Δ [] β) j) j (Nat.le_refl _) (okc_bnd' hc hj) (hg j hj gt)
    · have q := kv9_lft (k := j) (n := (cxs Δ [] β).length - j) _ (bnd (cxs Δ [] β) j) j (Nat.le_refl _) (Nat.le_refl _) (okc_bnd' hc hj) (hk j hj lj)
      rw [show j + ((cxs Δ [] β).length - j) = (cxs Δ [] β).length by omega] at q
      exact q
/-- a scheme with that bound is the very scheme -/
theorem Ky9.sch {C : Ty} {Δ : List Ty} {f : Ty} (oσ : ok 0 (tAll B C) = true) (k : Ky9 B (tAll B C) β l Δ (tAll (upb [] Δ B) f)) : tAll (upb [] Δ B) f = upb [] Δ (tAll B C) := by
  obtain ⟨-, hc, -, -, ot, -, kt⟩ := k
  have e1 : (cxs Δ [] β).length = (cxs Δ [] (tAll B tTop)).length := cxs_ll β (tAll B tTop)
  have e2 : (cxs Δ [] β).length = (cxs Δ [] (tAll (tAll B C) tTop)).length := cxs_ll β (tAll (tAll B C) tTop)
  have q := (kv9_all.mp kt).1 (by rw [e1]; exact tqN_up (B := B) (Γ0 := []) (Δ := Δ) (C := tTop))
  have q2 : tqN (tAll B C) 0 (cxs Δ [] β).length (upb [] Δ (tAll B C)) = true := by rw [e2]; exact tqN_up (B := tAll B C) (Γ0 := []) (Δ := Δ) (C := tTop)
  have ou : ok (cxs Δ [] β).length (upb [] Δ (tAll B C)) = true := by
    have a := ok_lft 0 (Δ.length + 1) (tAll B C) 0 oσ
    rw [cxs_len]
    have e : 0 + (Δ.length + 1) + 0 = Δ.length + (([] : List Ty).length + 1) := by show 0 + (Δ.length + 1) + 0 = Δ.length + (0 + 1); omega
    rw [e] at a
    exact a
  unfold tqN at q q2
  rw [decide_eq_true_iff] at q q2
  refine flat_eq ot ou (map_nfx (D := (cxs Δ [] β).length) _ _ (fun c hc => ?_) (fun c hc => ?_) (by rw [q, q2]))
  · exact (flat_codes _ _ _ (Nat.le_refl _) ot c hc).1
  · exact (flat_codes _ _ _ (Nat.le_refl _) ou c hc).1
end PmIi
