/-! SCHEMES CUT BEHIND THEIR BOUNDS: which variables a type names, and what may be cut. -/
/-- names the variable of that level -/
def men (r : Nat) : Ty → Bool
  | .tag c f => (c == 16 + r) || men r f
  | .append a b => men r a || men r b
  | _ => false
/-- schemes whose bound names it (and is one of those meant) lose what stands behind -/
def ct (κ : Ty → Bool) (r : Nat) : Ty → Ty
  | .tag c (.append a b) => if c = 2 then (if men r a && κ a then .tag 2 (.append a tTop) else .tag 2 (.append a (ct κ r b))) else .tag c (.append (ct κ r a) (ct κ r b))
  | .append a b => .append (ct κ r a) (ct κ r b)
  | t => t
/-- no scheme that can be reached has such a bound: those that name s are not reached -/
def Wn (κ : Ty → Bool) (r s : Nat) : Ty → Bool
  | .tag c (.append a b) => if c = 2 then (men s a || (!(men r a && κ a) && (Wn κ r s a && Wn κ r s b))) else (Wn κ r s a && Wn κ r s b)
  | .append a b => Wn κ r s a && Wn κ r s b
  | _ => true
/-- in all schemes with a bound of that head, none such with their own variable -/
def PNs (κ : Ty → Bool) (hb s : Nat) : Nat → Ty → Bool
  | d, .tag c (.append a b) => if c = 2 then (PNs κ hb s d a && PNs κ hb s (d + 1) b) && (!(hd a == hb) || Wn κ d s b) else (PNs κ hb s d a && PNs κ hb s d b)
  | d, .append a b => PNs κ hb s d a && PNs κ hb s d b
  | _, _ => true
def shl (j m r : Nat) : Nat := if j ≤ r then r + m else r
section PmKa
variable {κ : Ty → Bool} {r s d hb : Nat}
theorem men_fun (a b : Ty) : men r (tFun a b) = (men r a || men r b) := by
  have : ¬ (1 == 16 + r) = true := by simp; omega
  simp [tFun, men, this]
theorem men_rec {m : Nat} (hm : m < 8) (x y z : Ty) : men r (tRec m x y z) = (men r x || (men r y || men r z)) := by
  have : ¬ (8 + m == 16 + r) = true := by simp; omega
  simp [tRec, men, this]
theorem ct_var (k : Nat) : ct κ r (tVar k) = tVar k := rfl
theorem ct_fun (a b : Ty) : ct κ r (tFun a b) = tFun (ct κ r a) (ct κ r b) := by simp [tFun, ct]
theorem ct_all (a b : Ty) : ct κ r (tAll a b) = tAll a (if men r a && κ a then tTop else ct κ r b) := by
  simp only [tAll, ct, if_true]
  split <;> rfl
theorem ct_rec {m : Nat} (x y z : Ty) : ct κ r (tRec m x y z) = tRec m (ct κ r x) (ct κ r y) (ct κ r z) := by
  unfold tRec
  rw [ct, if_neg (by omega), ct]
theorem Wn_fun (a b : Ty) : Wn κ r s (tFun a b) = (Wn κ r s a && Wn κ r s b) := by simp [tFun, Wn]
theorem Wn_rec {m : Nat} (x y z : Ty) : Wn κ r s (tRec m x y z) = (Wn κ r s x && (Wn κ r s y && Wn κ r s z)) := by
  unfold tRec
  rw [Wn, if_neg (by omega), Wn]
theorem PNs_fun (a b : Ty) : PNs κ hb s d (tFun a b) = (PNs κ hb s d a && PNs κ hb s d b) := by simp [tFun, PNs]
theorem PNs_rec {m : Nat} (x y z : Ty) : PNs κ hb s d (tRec m x y z) = (PNs κ hb s d x && (PNs κ hb s d y && PNs κ hb s d z)) := by
  unfold tRec
  rw [PNs, if_neg (by omega), PNs]
/-- what is lifted does not name the levels between -/
theorem men_gap {k m : Nat} (h1 : k ≤ r) (h2 : r < k + m) : ∀ t : Ty, men r (lft k m t) = false
  | .tag c f => by
    show ((if 16 + k ≤ c then c + m else c) == 16 + r || men r (lft k m f)) = false
    rw [men_gap h1 h2 f, Bool.or_false]
    have : (if 16 + k ≤ c then c + m else c) ≠ 16 + r := by split <;> omega
    simpa using this
  | .append a b => by
    show (men r (lft k m a) || men r (lft k m b)) = false
    rw [men_gap h1 h2 a, men_gap h1 h2 b]; rfl
  | .nil => rfl
  | .line => rfl
  | .align _ => rfl
  | .text _ => rfl
  | .nest _ _ => rfl
  | .group _ _ => rfl
theorem men_lft (j m : Nat) : ∀ t : Ty, men (shl j m r) (lft j m t) = men r t
  | .tag c f => by
    show ((if 16 + j ≤ c then c + m else c) == 16 + shl j m r || men (shl j m r) (lft j m f)) = (c == 16 + r || men r f)
    rw [men_lft j m f]
    congr 1
    unfold shl
    rw [Bool.eq_iff_iff]
    simp only [beq_iff_eq]
    split <;> split <;> omega
  | .append a b => by
    show (men _ (lft j m a) || men _ (lft j m b)) = (men r a || men r b)
    rw [men_lft j m a, men_lft j m b]
  | .nil => rfl
  | .line => rfl
  | .align _ => rfl
  | .text _ => rfl
  | .nest _ _ => rfl
  | .group _ _ => rfl
end PmKa
theorem lft_tag2 {j m c : Nat} : (if 16 + j ≤ c then c + m else c) = 2 ↔ c = 2 := by split <;> omega
theorem lft_hdb {hb : Nat} (hh : hb < 16) (j m : Nat) : ∀ t : Ty, (hd (lft j m t) == hb) = (hd t == hb)
  | .tag c f => by
    show ((if 16 + j ≤ c then c + m else c) == hb) = (c == hb)
    rw [Bool.eq_iff_iff]
    simp only [beq_iff_eq]
    split <;> omega
  | .append a b => rfl
  | .nil => rfl
  | .line => rfl
  | .align _ => rfl
  | .text _ => rfl
  | .nest _ _ => rfl
  | .group _ _ => rfl
section PmKb
variable {κ : Ty → Bool} {r s hb : Nat}
theorem Wn_lft (hκ : ∀ j m t, κ (lft j m t) = κ t) (j m : Nat) : ∀ t : Ty, Wn κ (shl j m r) (shl j m s) (lft j m t) = Wn κ r s t
  | .tag c (.append a b) => by
    have h1 := Wn_lft hκ j m a
    have h2 := Wn_lft hκ j m b
    show Wn κ _ _ (.tag (if 16 + j ≤ c then c + m else c) (.append (lft j m a) (lft j m b))) = _
    rw [Wn, Wn, h1, h2, men_lft, men_lft, hκ]
    by_cases e : c = 2
    · rw [if_pos (lft_tag2.mpr e), if_pos e]
    · rw [if_neg (fun x => e (lft_tag2.mp x)), if_neg e]
  | .append a b => by
    show (Wn κ _ _ (lft j m a) && Wn κ _ _ (lft j m b)) = (Wn κ r s a && Wn κ r s b)
    rw [Wn_lft hκ j m a, Wn_lft hκ j m b]
  | .tag c .nil => rfl
  | .tag c .line => rfl
  | .tag c (.align _) => rfl
  | .tag c (.text _) => rfl
  | .tag c (.nest _ _) => rfl
  | .tag c (.group _ _) => rfl
  | .tag c (.tag _ _) => rfl
  | .nil => rfl
  | .line => rfl
  | .align _ => rfl
  | .text _ => rfl
  | .nest _ _ => rfl
  | .group _ _ => rfl
theorem PNs_lft (hκ : ∀ j m t, κ (lft j m t) = κ t) (hh : hb < 16) (j m : Nat) : ∀ (t : Ty) (d : Nat), j ≤ d → PNs κ hb (shl j m s) (d + m) (lft j m t) = PNs κ hb s d t
  | .tag c (.append a b), d, hd0 => by
    have h1 := PNs_lft hκ hh j m a d hd0
    have h2 := PNs_lft hκ hh j m b d hd0
    have h3 := PNs_lft hκ hh j m b (d + 1) (by omega)
    have h4 := Wn_lft hκ (r := d) (s := s) j m b
    rw [show shl j m d = d + m by unfold shl; rw [if_pos hd0]] at h4
    rw [show d + 1 + m = d + m + 1 by omega] at h3
    show PNs κ hb _ _ (.tag (if 16 + j ≤ c then c + m else c) (.append (lft j m a) (lft j m b))) = _
    rw [PNs, PNs, h1, h2, h3, h4, lft_hdb hh]
    by_cases e : c = 2
    · rw [if_pos (lft_tag2.mpr e), if_pos e]
    · rw [if_neg (fun x => e (lft_tag2.mp x)), if_neg e]
  | .append a b, d, hd0 => by
    show (PNs κ hb _ _ (lft j m a) && PNs κ hb _ _ (lft j m b)) = (PNs κ hb s d a && PNs κ hb s d b)
    rw [PNs_lft hκ hh j m a d hd0, PNs_lft hκ hh j m b d hd0]
  | .tag c .nil, _, _ => rfl
  | .tag c .line, _, _ => rfl
  | .tag c (.align _), _, _ => rfl
  | .tag c (.text _), _, _ => rfl
  | .tag c (.nest _ _), _, _ => rfl
  | .tag c (.group _ _), _, _ => rfl
  | .tag c (.tag _ _), _, _ => rfl
  | .nil, _, _ => rfl
  | .line, _, _ => rfl
  | .align _, _, _ => rfl
  | .text _, _, _ => rfl
  | .nest _ _, _, _ => rfl
  | .group _ _, _, _ => rfl
end PmKb
theorem ct_ok (κ : Ty → Bool) (r : Nat) : ∀ (f : Nat) (t : Ty) (d : Nat), (flat t).length ≤ f → ok d t = true → ok d (ct κ r t) = true
  | 0, t, d, hf, o => by have := flat_pos o; omega
  | f + 1, t, d, hf, o => by
    rcases ok_cases o with rfl | ⟨j, hj, rfl⟩ | ⟨a, b, rfl, ha, hb⟩ | ⟨a, b, rfl, ha, hb⟩ | ⟨m, x, y, z, hm, rfl, h0, h1, h2⟩
    · exact o
    · exact o
    · rw [flat_fun, List.length_cons, List.length_append] at hf
      rw [ct_fun, ok_fun]
      exact ⟨ct_ok κ r f a d (by omega) ha, ct_ok κ r f b d (by omega) hb⟩
    · rw [flat_all, List.length_cons, List.length_append] at hf
      rw [ct_all, ok_all]
      refine ⟨ha, ?_⟩
      split
      · exact ok_top _
      · exact ct_ok κ r f b (d + 1) (by omega) hb
    · rw [flat_rec, List.length_cons, List.length_append, List.length_append] at hf
      rw [ct_rec, ok_rec hm]
      have key : ∀ (i : Nat) (p : Ty), (flat p).length ≤ f → okl d m i p → okl d m i (ct κ r p) := by
        intro i p hp ho
        unfold okl at ho ⊢
        by_cases hb : bit m i = true
        · rw [if_pos hb] at ho ⊢
          exact ct_ok κ r f p d hp ho
        · rw [if_neg hb] at ho ⊢
          rw [ho]; rfl
      exact ⟨key 0 x (by omega) h0, key 1 y (by omega) h1, key 2 z (by omega) h2⟩
/-- no scheme at all -/
def nsch : Ty → Bool
  | .tag c (.append a b) => !(c == 2) && (nsch a && nsch b)
  | .append a b => nsch a && nsch b
  | _ => true
