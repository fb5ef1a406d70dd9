/-! SCHEMES CUT BEHIND THEIR BOUNDS: which variables a type names, and what may be cut. -/
/-- names a variable of a level from k on, below r -/
def gpn (k r : Nat) : Ty → Bool
  | .tag c f => (decide (16 + k ≤ c) && decide (c < 16 + r)) || gpn k r f
  | .append a b => gpn k r a || gpn k r b
  | _ => false
/-- schemes with a bound that is meant lose what stands behind -/
def ct (κ : Ty → Bool) : Ty → Ty
  | .tag c (.append a b) => if c = 2 then (if κ a then .tag 2 (.append a tTop) else .tag 2 (.append a (ct κ b))) else .tag c (.append (ct κ a) (ct κ b))
  | .append a b => .append (ct κ a) (ct κ b)
  | t => t
/-- the schemes that are meant and can be reached all name a level between -/
def Wn (κ : Ty → Bool) (k r : Nat) : Ty → Bool
  | .tag c (.append a b) => if c = 2 then (gpn k r a || (!(κ a) && (Wn κ k r a && Wn κ k r b))) else (Wn κ k r a && Wn κ k r b)
  | .append a b => Wn κ k r a && Wn κ k r b
  | _ => true
/-- so it is in all bounds, and in all schemes with the bound Top -/
def PNs (κ : Ty → Bool) (k : Nat) : Nat → Ty → Bool
  | d, .tag c (.append a b) => if c = 2 then ((PNs κ k d a && PNs κ k (d + 1) b) && Wn κ k d a) && (!(hd a == 0) || Wn κ k d b) else (PNs κ k d a && PNs κ k d b)
  | d, .append a b => PNs κ k d a && PNs κ k d b
  | _, _ => true
section PmKa
variable {κ : Ty → Bool} {k r d : Nat}
theorem gpn_fun (a b : Ty) : gpn k r (tFun a b) = (gpn k r a || gpn k r b) := by
  have : ¬ 16 + k ≤ 1 := by omega
  simp [tFun, gpn, this]
theorem gpn_all (a b : Ty) : gpn k r (tAll a b) = (gpn k r a || gpn k r b) := by
  have : ¬ 16 + k ≤ 2 := by omega
  simp [tAll, gpn, this]
theorem gpn_rec {m : Nat} (hm : m < 8) (x y z : Ty) : gpn k r (tRec m x y z) = (gpn k r x || (gpn k r y || gpn k r z)) := by
  have : ¬ 16 + k ≤ 8 + m := by omega
  simp [tRec, gpn, this]
theorem gpn_var {j : Nat} (h : gpn k r (tVar j) = false) : j < k ∨ r ≤ j := by
  have h : ((decide (16 + k ≤ 16 + j) && decide (16 + j < 16 + r)) || false) = false := h
  rw [Bool.or_false, Bool.and_eq_false_iff, decide_eq_false_iff_not, decide_eq_false_iff_not] at h
  omega
theorem gpn_top : gpn k r tTop = false := by
  have : ¬ 16 + k ≤ 0 := by omega
  simp [tTop, gpn, this]
theorem ct_top : ct κ tTop = tTop := rfl
theorem ct_var (j : Nat) : ct κ (tVar j) = tVar j := rfl
theorem ct_nil : ct κ .nil = .nil := rfl
theorem ct_fun (a b : Ty) : ct κ (tFun a b) = tFun (ct κ a) (ct κ b) := by simp [tFun, ct]
theorem ct_all (a b : Ty) : ct κ (tAll a b) = tAll a (if κ a then tTop else ct κ b) := by
  simp only [tAll, ct, if_true]
  split <;> rfl
theorem ct_rec {m : Nat} (x y z : Ty) : ct κ (tRec m x y z) = tRec m (ct κ x) (ct κ y) (ct κ z) := by
  unfold tRec
  rw [ct, if_neg (by omega), ct]
theorem ct_hd : ∀ t : Ty, hd (ct κ t) = hd t
  | .tag c (.append a b) => by
    rw [ct]
    split
    · rename_i h; subst h
      split <;> rfl
    · rfl
  | .tag c .nil => rfl
  | .tag c .line => rfl
  | .tag c (.align _) => rfl
  | .tag c (.text _) => rfl
  | .tag c (.nest _ _) => rfl
  | .tag c (.group _ _) => rfl
  | .tag c (.tag _ _) => rfl
  | .nil => rfl
  | .line => rfl
  | .align _ => rfl
  | .text _ => rfl
  | .nest _ _ => rfl
  | .group _ _ => rfl
  | .append _ _ => rfl
theorem Wn_fun (a b : Ty) : Wn κ k r (tFun a b) = (Wn κ k r a && Wn κ k r b) := by simp [tFun, Wn]
theorem Wn_all (a b : Ty) : Wn κ k r (tAll a b) = (gpn k r a || (!(κ a) && (Wn κ k r a && Wn κ k r b))) := by simp [tAll, Wn]
theorem Wn_rec {m : Nat} (x y z : Ty) : Wn κ k r (tRec m x y z) = (Wn κ k r x && (Wn κ k r y && Wn κ k r z)) := by
  unfold tRec
  rw [Wn, if_neg (by omega), Wn]
theorem Wn_top : Wn κ k r tTop = true := rfl
theorem Wn_var (j : Nat) : Wn κ k r (tVar j) = true := rfl
theorem PNs_fun (a b : Ty) : PNs κ k d (tFun a b) = (PNs κ k d a && PNs κ k d b) := by simp [tFun, PNs]
theorem PNs_all (a b : Ty) : PNs κ k d (tAll a b) = (((PNs κ k d a && PNs κ k (d + 1) b) && Wn κ k d a) && (!(hd a == 0) || Wn κ k d b)) := by simp [tAll, PNs]
theorem PNs_rec {m : Nat} (x y z : Ty) : PNs κ k d (tRec m x y z) = (PNs κ k d x && (PNs κ k d y && PNs κ k d z)) := by
  unfold tRec
  rw [PNs, if_neg (by omega), PNs]
theorem PNs_top : PNs κ k d tTop = true := rfl
/-- what is lifted does not name the levels between -/
theorem gpn_gap {j m : Nat} (h1 : j ≤ k) (h2 : r ≤ j + m) : ∀ t : Ty, gpn k r (lft j m t) = false
  | .tag c f => by
    show ((decide (16 + k ≤ (if 16 + j ≤ c then c + m else c)) && decide ((if 16 + j ≤ c then c + m else c) < 16 + r)) || gpn k r (lft j m f)) = false
    rw [gpn_gap h1 h2 f, Bool.or_false, Bool.and_eq_false_iff, decide_eq_false_iff_not, decide_eq_false_iff_not]
    split <;> omega
  | .append a b => by
    show (gpn k r (lft j m a) || gpn k r (lft j m b)) = false
    rw [gpn_gap h1 h2 a, gpn_gap h1 h2 b]; rfl
  | .nil => rfl
  | .line => rfl
  | .align _ => rfl
  | .text _ => rfl
  | .nest _ _ => rfl
  | .group _ _ => rfl
/-- lifting from there on changes nothing below -/
theorem gpn_low {j m : Nat} (h : r ≤ j) : ∀ t : Ty, gpn k r (lft j m t) = gpn k r t
  | .tag c f => by
    show ((decide (16 + k ≤ (if 16 + j ≤ c then c + m else c)) && decide ((if 16 + j ≤ c then c + m else c) < 16 + r)) || gpn k r (lft j m f)) = ((decide (16 + k ≤ c) && decide (c < 16 + r)) || gpn k r f)
    rw [gpn_low h f]
    congr 1
    rw [Bool.eq_iff_iff, Bool.and_eq_true, Bool.and_eq_true, decide_eq_true_iff, decide_eq_true_iff, decide_eq_true_iff, decide_eq_true_iff]
    split <;> omega
  | .append a b => by
    show (gpn k r (lft j m a) || gpn k r (lft j m b)) = (gpn k r a || gpn k r b)
    rw [gpn_low h a, gpn_low h b]
  | .nil => rfl
  | .line => rfl
  | .align _ => rfl
  | .text _ => rfl
  | .nest _ _ => rfl
  | .group _ _ => rfl
/-- what names a level between does so when lifted -/
theorem gpn_up {j m r' : Nat} (h : r ≤ r') (h' : j < r → r + m ≤ r') : ∀ t : Ty, gpn k r t = true → gpn k r' (lft j m t) = true
  | .tag c f, e => by
    have e : ((decide (16 + k ≤ c) && decide (c < 16 + r)) || gpn k r f) = true := e
    show ((decide (16 + k ≤ (if 16 + j ≤ c then c + m else c)) && decide ((if 16 + j ≤ c then c + m else c) < 16 + r')) || gpn k r' (lft j m f)) = true
    rw [Bool.or_eq_true] at e ⊢
    rcases e with e | e
    · left
      rw [Bool.and_eq_true, decide_eq_true_iff, decide_eq_true_iff] at e ⊢
      split
      · have := h' (by omega); omega
      · omega
    · exact Or.inr (gpn_up h h' f e)
  | .append a b, e => by
    have e : (gpn k r a || gpn k r b) = true := e
    show (gpn k r' (lft j m a) || gpn k r' (lft j m b)) = true
    rw [Bool.or_eq_true] at e ⊢
    rcases e with e | e
    · exact Or.inl (gpn_up h h' a e)
    · exact Or.inr (gpn_up h h' b e)
  | .nil, e => by cases e
  | .line, e => by cases e
  | .align _, e => by cases e
  | .text _, e => by cases e
  | .nest _ _, e => by cases e
  | .group _ _, e => by cases e
end PmKa
theorem lft_tag2 {j m c : Nat} : (if 16 + j ≤ c then c + m else c) = 2 ↔ c = 2 := by split <;> omega
theorem lft_hd0 (j m : Nat) : ∀ t : Ty, (hd (lft j m t) == 0) = (hd t == 0)
  | .tag c f => by
    show ((if 16 + j ≤ c then c + m else c) == 0) = (c == 0)
    rw [Bool.eq_iff_iff]
    simp only [beq_iff_eq]
    split <;> omega
  | .append a b => rfl
  | .nil => rfl
  | .line => rfl
  | .align _ => rfl
  | .text _ => rfl
  | .nest _ _ => rfl
  | .group _ _ => rfl
section PmKb
variable {κ : Ty → Bool} {k r : Nat}
theorem Wn_up (hκ : ∀ j m t, κ (lft j m t) = κ t) {j m r' : Nat} (h : r ≤ r') (h' : j < r → r + m ≤ r') : ∀ t : Ty, Wn κ k r t = true → Wn κ k r' (lft j m t) = true
  | .tag c (.append a b), e => by
    show Wn κ _ _ (.tag (if 16 + j ≤ c then c + m else c) (.append (lft j m a) (lft j m b))) = true
    rw [Wn] at e ⊢
    rw [hκ]
    by_cases e2 : c = 2
    · rw [if_pos e2] at e
      rw [if_pos (lft_tag2.mpr e2)]
      rw [Bool.or_eq_true] at e ⊢
      rcases e with e | e
      · exact Or.inl (gpn_up h h' a e)
      · rw [Bool.and_eq_true, Bool.and_eq_true] at e
        right
        rw [e.1, Wn_up hκ h h' a e.2.1, Wn_up hκ h h' b e.2.2]
        rfl
    · rw [if_neg e2, Bool.and_eq_true] at e
      rw [if_neg (fun x => e2 (lft_tag2.mp x)), Wn_up hκ h h' a e.1, Wn_up hκ h h' b e.2]
      rfl
  | .append a b, e => by
    have e : (Wn κ k r a && Wn κ k r b) = true := e
    rw [Bool.and_eq_true] at e
    show (Wn κ _ _ (lft j m a) && Wn κ _ _ (lft j m b)) = true
    rw [Wn_up hκ h h' a e.1, Wn_up hκ h h' b e.2]
    rfl
  | .tag c .nil, _ => rfl
  | .tag c .line, _ => rfl
  | .tag c (.align _), _ => rfl
  | .tag c (.text _), _ => rfl
  | .tag c (.nest _ _), _ => rfl
  | .tag c (.group _ _), _ => rfl
  | .tag c (.tag _ _), _ => rfl
  | .nil, _ => rfl
  | .line, _ => rfl
  | .align _, _ => rfl
  | .text _, _ => rfl
  | .nest _ _, _ => rfl
  | .group _ _, _ => rfl
theorem ct_lft (hκ : ∀ j m t, κ (lft j m t) = κ t) (j m : Nat) : ∀ t : Ty, ct κ (lft j m t) = lft j m (ct κ t)
  | .tag c (.append a b) => by
    have h1 := ct_lft hκ j m a
    have h2 := ct_lft hκ j m b
    show ct κ (.tag (if 16 + j ≤ c then c + m else c) (.append (lft j m a) (lft j m b))) = _
    rw [ct, ct, h1, h2, hκ]
    by_cases e : c = 2
    · rw [if_pos (lft_tag2.mpr e), if_pos e]
      have e2 : (if 16 + j ≤ 2 then 2 + m else 2) = 2 := by rw [if_neg (by omega)]
      split
      · show _ = Std.Format.tag (if 16 + j ≤ 2 then 2 + m else 2) (.append (lft j m a) (lft j m tTop))
        rw [e2, lft_top]
      · show _ = Std.Format.tag (if 16 + j ≤ 2 then 2 + m else 2) (.append (lft j m a) (lft j m (ct κ b)))
        rw [e2]
    · rw [if_neg (fun x => e (lft_tag2.mp x)), if_neg e]
      rfl
  | .append a b => by
    show Std.Format.append (ct κ (lft j m a)) (ct κ (lft j m b)) = .append (lft j m (ct κ a)) (lft j m (ct κ b))
    rw [ct_lft hκ j m a, ct_lft hκ j m b]
  | .tag c .nil => rfl
  | .tag c .line => rfl
  | .tag c (.align _) => rfl
  | .tag c (.text _) => rfl
  | .tag c (.nest _ _) => rfl
  | .tag c (.group _ _) => rfl
  | .tag c (.tag _ _) => rfl
  | .nil => rfl
  | .line => rfl
  | .align _ => rfl
  | .text _ => rfl
  | .nest _ _ => rfl
  | .group _ _ => rfl
theorem PNs_up (hκ : ∀ j m t, κ (lft j m t) = κ t) (j m : Nat) : ∀ (t : Ty) (d : Nat), j ≤ d → PNs κ k d t = true → PNs κ k (d + m) (lft j m t) = true
  | .tag c (.append a b), d, hd0, e => by
    show PNs κ _ _ (.tag (if 16 + j ≤ c then c + m else c) (.append (lft j m a) (lft j m b))) = true
    rw [PNs] at e ⊢
    rw [lft_hd0]
    by_cases e2 : c = 2
    · rw [if_pos e2, Bool.and_eq_true, Bool.and_eq_true, Bool.and_eq_true] at e
      rw [if_pos (lft_tag2.mpr e2)]
      obtain ⟨⟨⟨a1, a2⟩, a3⟩, a4⟩ := e
      have h3 := PNs_up hκ j m b (d + 1) (by omega) a2
      rw [show d + 1 + m = d + m + 1 by omega] at h3
      rw [PNs_up hκ j m a d hd0 a1, h3, Wn_up hκ (by omega) (fun _ => Nat.le_refl _) a a3]
      rw [Bool.or_eq_true] at a4
      rcases a4 with a4 | a4
      · rw [a4]; rfl
      · rw [Wn_up hκ (r' := d + m) (by omega) (fun _ => Nat.le_refl _) b a4]
        simp
    · rw [if_neg e2, Bool.and_eq_true] at e
      rw [if_neg (fun x => e2 (lft_tag2.mp x)), PNs_up hκ j m a d hd0 e.1, PNs_up hκ j m b d hd0 e.2]
      rfl
  | .append a b, d, hd0, e => by
    have e : (PNs κ k d a && PNs κ k d b) = true := e
    rw [Bool.and_eq_true] at e
    show (PNs κ _ _ (lft j m a) && PNs κ _ _ (lft j m b)) = true
    rw [PNs_up hκ j m a d hd0 e.1, PNs_up hκ j m b d hd0 e.2]
    rfl
  | .tag c .nil, _, _, _ => rfl
  | .tag c .line, _, _, _ => rfl
  | .tag c (.align _), _, _, _ => rfl
  | .tag c (.text _), _, _, _ => rfl
  | .tag c (.nest _ _), _, _, _ => rfl
  | .tag c (.group _ _), _, _, _ => rfl
  | .tag c (.tag _ _), _, _, _ => rfl
  | .nil, _, _, _ => rfl
  | .line, _, _, _ => rfl
  | .align _, _, _, _ => rfl
  | .text _, _, _, _ => rfl
  | .nest _ _, _, _, _ => rfl
  | .group _ _, _, _, _ => rfl
end PmKb
theorem ct_ok (κ : Ty → Bool) : ∀ (f : Nat) (t : Ty) (d : Nat), (flat t).length ≤ f → ok d t = true → ok d (ct κ t) = true
  | 0, t, d, hf, o => by have := flat_pos o; omega
  | f + 1, t, d, hf, o => by
    rcases ok_cases o with rfl | ⟨j, hj, rfl⟩ | ⟨a, b, rfl, ha, hb⟩ | ⟨a, b, rfl, ha, hb⟩ | ⟨m, x, y, z, hm, rfl, h0, h1, h2⟩
    · exact o
    · exact o
    · rw [flat_fun, List.length_cons, List.length_append] at hf
      rw [ct_fun, ok_fun]
      exact ⟨ct_ok κ f a d (by omega) ha, ct_ok κ f b d (by omega) hb⟩
    · rw [flat_all, List.length_cons, List.length_append] at hf
      rw [ct_all, ok_all]
      refine ⟨ha, ?_⟩
      split
      · exact ok_top _
      · exact ct_ok κ f b (d + 1) (by omega) hb
    · rw [flat_rec, List.length_cons, List.length_append, List.length_append] at hf
      rw [ct_rec, ok_rec hm]
      have key : ∀ (i : Nat) (p : Ty), (flat p).length ≤ f → okl d m i p → okl d m i (ct κ p) := by
        intro i p hp ho
        unfold okl at ho ⊢
        by_cases hb : bit m i = true
        · rw [if_pos hb] at ho ⊢
          exact ct_ok κ f p d hp ho
        · rw [if_neg hb] at ho ⊢
          rw [ho]; rfl
      exact ⟨key 0 x (by omega) h0, key 1 y (by omega) h1, key 2 z (by omega) h2⟩
