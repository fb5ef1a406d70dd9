/-! A SCHEME OF THE CONTEXT SEEN FROM INSIDE: what stands in it, and names nothing behind it, goes against any type as if the scheme's body were gone. -/
/-- no scheme with a bound of that head, and only variables below k0 or from m on -/
def gq (h k0 m : Nat) : Ty → Bool
  | .tag c (.append a b) => (if c = 2 then !(hd a == h) else true) && (gq h k0 m a && gq h k0 m b)
  | .tag c .nil => if 16 ≤ c then decide (c - 16 < k0 ∨ m ≤ c - 16) else true
  | .append a b => gq h k0 m a && gq h k0 m b
  | _ => true
section PmP2
variable {h k0 m : Nat}
theorem gq_top : gq h k0 m tTop = true := by simp [tTop, gq]
theorem gq_var (k : Nat) : gq h k0 m (tVar k) = true ↔ (k < k0 ∨ m ≤ k) := by simp [tVar, gq]
theorem gq_nil : gq h k0 m .nil = true := by simp [gq]
theorem gq_fun {a b : Ty} : gq h k0 m (tFun a b) = true ↔ gq h k0 m a = true ∧ gq h k0 m b = true := by simp [tFun, gq]
theorem gq_all {a b : Ty} : gq h k0 m (tAll a b) = true ↔ hd a ≠ h ∧ gq h k0 m a = true ∧ gq h k0 m b = true := by simp [tAll, gq]
theorem gq_rec {c : Nat} {x y z : Ty} : gq h k0 m (tRec c x y z) = true ↔ gq h k0 m x = true ∧ gq h k0 m y = true ∧ gq h k0 m z = true := by
  have e : ¬ 8 + c = 2 := by omega
  simp [tRec, gq, e]
theorem gq_lft (h16 : h < 16) {d n l : Nat} (hl : l ≤ d + n) : ∀ (f : Nat) (t : Ty) (D : Nat), (flat t).length ≤ f → ok D t = true → gq h k0 (min l d) t = true → gq h k0 l (lft d n t) = true
  | 0, t, D, hf, o, _ => by have := flat_pos o; omega
  | f + 1, t, D, hf, o, ht => by
    rcases ok_cases o with rfl | ⟨j, hj, rfl⟩ | ⟨a, b, rfl, ha, hb⟩ | ⟨a, b, rfl, ha, hb⟩ | ⟨c, x, y, z, hm, rfl, h0, h1, h2⟩
    · rw [lft_top]; exact gq_top
    · rw [gq_var] at ht
      rw [lft_var]
      by_cases e : d ≤ j
      · rw [if_pos e, gq_var]; right; omega
      · rw [if_neg e, gq_var]; omega
    · rw [flat_fun, List.length_cons, List.length_append] at hf
      rw [gq_fun] at ht
      rw [lft_fun, gq_fun]
      exact ⟨gq_lft h16 hl f a D (by omega) ha ht.1, gq_lft h16 hl f b D (by omega) hb ht.2⟩
    · rw [flat_all, List.length_cons, List.length_append] at hf
      rw [gq_all] at ht
      rw [lft_all, gq_all]
      refine ⟨?_, gq_lft h16 hl f a D (by omega) ha ht.2.1, gq_lft h16 hl f b (D + 1) (by omega) hb ht.2.2⟩
      rw [lft_hd ha]
      have := ht.1
      split <;> omega
    · rw [flat_rec, List.length_cons, List.length_append, List.length_append] at hf
      rw [gq_rec] at ht
      rw [lft_rec hm, gq_rec]
      have key : ∀ (i : Nat) (p : Ty), (flat p).length ≤ f → okl D c i p → gq h k0 (min l d) p = true → gq h k0 l (lft d n p) = true := by
        intro i p hp ho hn
        unfold okl at ho
        by_cases hb : bit c i = true
        · rw [if_pos hb] at ho
          exact gq_lft h16 hl f p D hp ho hn
        · rw [if_neg hb] at ho
          rw [ho]; exact gq_nil
      exact ⟨key 0 x (by omega) h0 ht.1, key 1 y (by omega) h1 ht.2.1, key 2 z (by omega) h2 ht.2.2⟩
/-- the bounds of what may be named -/
def gqc (h k0 l : Nat) (Γ : List Ty) : Prop := ∀ j, j < Γ.length → (j < k0 ∨ l ≤ j) → gq h k0 (min l j) (bnd Γ j) = true
/-- the two contexts, and from which level on the variables are good -/
def ZC (h : Nat) (B C C' : Ty) (Γ0 : List Ty) (l : Nat) (Δ : List Ty) : Prop := (h < 16 ∧ hd B = h) ∧ okc (cxs Δ Γ0 (tAll B C)) ∧ okc (cxs Δ Γ0 (tAll B C')) ∧ (Γ0.length < l ∧ l ≤ (cxs Δ Γ0 (tAll B C)).length) ∧ gqc h Γ0.length l (cxs Δ Γ0 (tAll B C))
variable {l : Nat} {B C C' : Ty} {Γ0 Δ : List Ty}
theorem ZC.tok (s : ZC h B C C' Γ0 l Δ) {S T S' T' : Ty} (o1 : ok (cxs Δ Γ0 (tAll B C)).length S = true) (o2 : ok (cxs Δ Γ0 (tAll B C)).length T = true) (o3 : ok (cxs Δ Γ0 (tAll B C)).length S' = true) (o4 : ok (cxs Δ Γ0 (tAll B C)).length T' = true) : tok (cxs Δ Γ0 (tAll B C), S, T) ∧ tok (cxs Δ Γ0 (tAll B C'), S', T') :=
  ⟨⟨s.2.1, o1, o2⟩, ⟨s.2.2.1, by rw [cxs_ll (tAll B C') (tAll B C)]; exact o3, by rw [cxs_ll (tAll B C') (tAll B C)]; exact o4⟩⟩
theorem ZC.ext (s : ZC h B C C' Γ0 l Δ) {a : Ty} (oa : ok (cxs Δ Γ0 (tAll B C)).length a = true) (ga : gq h Γ0.length l a = true) : ZC h B C C' Γ0 l (a :: Δ) := by
  obtain ⟨s1, s2, s3, s4, s5⟩ := s
  refine ⟨s1, ⟨oa, s2⟩, ⟨by show ok (cxs Δ Γ0 (tAll B C')).length a = true; rw [cxs_ll (tAll B C') (tAll B C)]; exact oa, s3⟩, ⟨s4.1, ?_⟩, ?_⟩
  · have := s4.2
    rw [cxs_len] at this ⊢
    rw [List.length_cons]; omega
  · intro j hj hp
    show gq h Γ0.length (min l j) (if j = (cxs Δ Γ0 (tAll B C)).length then a else bnd (cxs Δ Γ0 (tAll B C)) j) = true
    by_cases e : j = (cxs Δ Γ0 (tAll B C)).length
    · rw [if_pos e, e, Nat.min_eq_left s4.2]; exact ga
    · rw [if_neg e]
      refine s5 j ?_ hp
      have hj : j < (a :: cxs Δ Γ0 (tAll B C)).length := hj
      rw [List.length_cons] at hj; omega
/-- another variable, exposed -/
theorem ZC.ex (s : ZC h B C C' Γ0 l Δ) {j : Nat} (hj : j < (cxs Δ Γ0 (tAll B C)).length) (ne : j ≠ Γ0.length) : exps (cxs Δ Γ0 (tAll B C)) (tVar j) = exps (cxs Δ Γ0 (tAll B C')) (tVar j) ∧ ok (cxs Δ Γ0 (tAll B C)).length (exps (cxs Δ Γ0 (tAll B C)) (tVar j)) = true ∧ (gq h Γ0.length l (tVar j) = true → gq h Γ0.length l (exps (cxs Δ Γ0 (tAll B C)) (tVar j)) = true) := by
  rw [exps_var, exps_var]
  refine ⟨?_, ok_expose s.2.1 hj, fun g => ?_⟩
  · rw [cxs_ll (tAll B C') (tAll B C), cxs_other Γ0 (tAll B C) (tAll B C') ne]
  · rw [gq_var] at g
    refine gq_lft s.1.1 (by have := s.2.2.2.1.2; omega) _ (bnd (cxs Δ Γ0 (tAll B C)) j) j (Nat.le_refl _) (okc_bnd' s.2.1 hj) (s.2.2.2.2 j hj g)
theorem ZC.up (s : ZC h B C C' Γ0 l Δ) : ok (cxs Δ Γ0 (tAll B C)).length (upb Γ0 Δ (tAll B C)) = true ∧ ok (cxs Δ Γ0 (tAll B C)).length (upb Γ0 Δ (tAll B C')) = true := by
  have a := ok_expose s.2.1 (SGc.k_lt (Γ0 := Γ0) (Δ := Δ) (tAll B C))
  have b := ok_expose s.2.2.1 (SGc.k_lt (Γ0 := Γ0) (Δ := Δ) (tAll B C'))
  rw [cxs_up] at a b
  exact ⟨a, by rw [cxs_ll (tAll B C) (tAll B C')]; exact b⟩
theorem ZC.hdB (s : ZC h B C C' Γ0 l Δ) : hd (upb Γ0 Δ B) = h := by
  have oB := (ok_all.mp (okc_mid s.2.1)).1
  have e := s.1.2
  have e16 := s.1.1
  unfold upb
  rw [lft_hd oB, e, if_neg (by omega)]
/-- the two walks: one side is good; or the scheme itself against what is good -/
def ZA (h : Nat) (B C C' : Ty) (Γ0 : List Ty) : TRel := fun z z' => ∃ l Δ, z.1 = cxs Δ Γ0 (tAll B C) ∧ z'.1 = cxs Δ Γ0 (tAll B C') ∧ ZC h B C C' Γ0 l Δ ∧ (ok z.1.length z.2.1 = true ∧ ok z.1.length z.2.2 = true) ∧ z.2 = z'.2 ∧ (gq h Γ0.length l z.2.1 = true ∨ gq h Γ0.length l z.2.2 = true)
def ZB (h : Nat) (B C C' : Ty) (Γ0 : List Ty) : TRel := fun z z' => ∃ l Δ, z.1 = cxs Δ Γ0 (tAll B C) ∧ z'.1 = cxs Δ Γ0 (tAll B C') ∧ ZC h B C C' Γ0 l Δ ∧ ok z.1.length z.2.2 = true ∧ z.2.1 = upb Γ0 Δ (tAll B C) ∧ z'.2.1 = upb Γ0 Δ (tAll B C') ∧ z.2.2 = z'.2.2 ∧ gq h Γ0.length l z.2.2 = true
def ZD (h : Nat) (B C C' : Ty) (Γ0 : List Ty) : TRel := fun z z' => ∃ l Δ, z.1 = cxs Δ Γ0 (tAll B C) ∧ z'.1 = cxs Δ Γ0 (tAll B C') ∧ ZC h B C C' Γ0 l Δ ∧ ok z.1.length z.2.1 = true ∧ z.2.2 = upb Γ0 Δ (tAll B C) ∧ z'.2.2 = upb Γ0 Δ (tAll B C') ∧ z.2.1 = z'.2.1 ∧ gq h Γ0.length l z.2.1 = true
def ZR (h : Nat) (B C C' : Ty) (Γ0 : List Ty) : TRel := fun z z' => ZA h B C C' Γ0 z z' ∨ ZB h B C C' Γ0 z z' ∨ ZD h B C C' Γ0 z z'
theorem ZA.var (s : ZC h B C C' Γ0 l Δ) {S T : Ty} (o1 : ok (cxs Δ Γ0 (tAll B C)).length S = true) (o2 : ok (cxs Δ Γ0 (tAll B C)).length T = true) (g : gq h Γ0.length l S = true ∨ gq h Γ0.length l T = true) (v : 16 ≤ hd S) : ZR h B C C' Γ0 (cxs Δ Γ0 (tAll B C), exps (cxs Δ Γ0 (tAll B C)) S, T) (cxs Δ Γ0 (tAll B C'), exps (cxs Δ Γ0 (tAll B C')) S, T) := by
  obtain ⟨k, hk, rfl⟩ := hd_is_var o1 v
  by_cases ne : k = Γ0.length
  · subst ne
    have gT : gq h Γ0.length l T = true := by
      rcases g with g | g
      · rw [gq_var] at g
        have := s.2.2.2.1.1
        omega
      · exact g
    right; left
    refine ⟨l, Δ, rfl, rfl, s, o2, ?_, ?_, rfl, gT⟩
    · show exps _ _ = _
      rw [exps_var, cxs_up]
    · show exps _ _ = _
      rw [exps_var, cxs_up]
  · obtain ⟨e1, e2, e3⟩ := s.ex hk ne
    left
    refine ⟨l, Δ, rfl, rfl, s, ⟨e2, o2⟩, ?_, ?_⟩
    · show (exps _ _, T) = (exps _ _, T)
      rw [e1]
    · rcases g with g | g
      · exact Or.inl (e3 g)
      · exact Or.inr g
end PmP2
