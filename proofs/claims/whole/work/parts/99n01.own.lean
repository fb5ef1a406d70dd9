/-! NO SCHEME NAMES ITS OWN VARIABLE in a bound that is meant, anywhere behind it. -/
def Wo (κ : Ty → Bool) (r : Nat) : Ty → Bool
  | .tag c (.append a b) => if c = 2 then (!(men r a && κ a) && (Wo κ r a && Wo κ r b)) else (Wo κ r a && Wo κ r b)
  | .append a b => Wo κ r a && Wo κ r b
  | _ => true
/-- a bound of that head, or one that may become such: a variable -/
def hbv (hb : Nat) (a : Ty) : Bool := hd a == hb || decide (16 ≤ hd a)
def PNw (κ : Ty → Bool) (hb : Nat) : Nat → Ty → Bool
  | d, .tag c (.append a b) => if c = 2 then (PNw κ hb d a && PNw κ hb (d + 1) b) && (!(hbv hb a) || Wo κ d b) else (PNw κ hb d a && PNw κ hb d b)
  | d, .append a b => PNw κ hb d a && PNw κ hb d b
  | _, _ => true
/-- such bounds stand in no argument of a function -/
def Pz (κ : Ty → Bool) (r : Nat) : Ty → Bool
  | .tag c (.append a b) => if c = 2 then ((men r a && κ a) || (Wo κ r a && Pz κ r b)) else if c = 1 then (Wo κ r a && Pz κ r b) else (Pz κ r a && Pz κ r b)
  | .append a b => Pz κ r a && Pz κ r b
  | _ => true
section PmN1
variable {κ : Ty → Bool} {r s d hb : Nat}
theorem Wo_all (a b : Ty) : Wo κ r (tAll a b) = (!(men r a && κ a) && (Wo κ r a && Wo κ r b)) := by simp [tAll, Wo]
theorem Wo_rec {m : Nat} (x y z : Ty) : Wo κ r (tRec m x y z) = (Wo κ r x && (Wo κ r y && Wo κ r z)) := by
  unfold tRec
  rw [Wo, if_neg (by omega), Wo]
theorem Pz_all (a b : Ty) : Pz κ r (tAll a b) = ((men r a && κ a) || (Wo κ r a && Pz κ r b)) := by simp [tAll, Pz]
theorem Pz_rec {m : Nat} (x y z : Ty) : Pz κ r (tRec m x y z) = (Pz κ r x && (Pz κ r y && Pz κ r z)) := by
  unfold tRec
  rw [Pz, if_neg (by omega), if_neg (by omega), Pz]
theorem Wo_lack : ∀ t : Ty, men r t = false → Wo κ r t = true
  | .tag c (.append a b), h => by
    simp only [men, Bool.or_eq_false_iff] at h
    have h1 := Wo_lack a h.2.1
    have h2 := Wo_lack b h.2.2
    rw [Wo, h.2.1, h1, h2]
    split <;> simp
  | .append a b, h => by
    simp only [men, Bool.or_eq_false_iff] at h
    rw [Wo, Wo_lack a h.1, Wo_lack b h.2]; rfl
  | .tag c .nil, _ => rfl
  | .tag c .line, _ => rfl
  | .tag c (.align _), _ => rfl
  | .tag c (.text _), _ => rfl
  | .tag c (.nest _ _), _ => rfl
  | .tag c (.group _ _), _ => rfl
  | .tag c (.tag _ _), _ => rfl
  | .nil, _ => rfl
  | .line, _ => rfl
  | .align _, _ => rfl
  | .text _, _ => rfl
  | .nest _ _, _ => rfl
  | .group _ _, _ => rfl
theorem Wo_lft (hκ : ∀ j m t, κ (lft j m t) = κ t) (j m : Nat) : ∀ t : Ty, Wo κ (shl j m r) (lft j m t) = Wo κ r t
  | .tag c (.append a b) => by
    have h1 := Wo_lft hκ j m a
    have h2 := Wo_lft hκ j m b
    show Wo κ _ (.tag (if 16 + j ≤ c then c + m else c) (.append (lft j m a) (lft j m b))) = _
    rw [Wo, Wo, h1, h2, men_lft, hκ]
    by_cases e : c = 2
    · rw [if_pos (lft_tag2.mpr e), if_pos e]
    · rw [if_neg (fun x => e (lft_tag2.mp x)), if_neg e]
  | .append a b => by
    show (Wo κ _ (lft j m a) && Wo κ _ (lft j m b)) = (Wo κ r a && Wo κ r b)
    rw [Wo_lft hκ j m a, Wo_lft hκ j m b]
  | .tag c .nil => rfl
  | .tag c .line => rfl
  | .tag c (.align _) => rfl
  | .tag c (.text _) => rfl
  | .tag c (.nest _ _) => rfl
  | .tag c (.group _ _) => rfl
  | .tag c (.tag _ _) => rfl
  | .nil => rfl
  | .line => rfl
  | .align _ => rfl
  | .text _ => rfl
  | .nest _ _ => rfl
  | .group _ _ => rfl
theorem hd_lft_hi (j m : Nat) : ∀ t : Ty, decide (16 ≤ hd (lft j m t)) = decide (16 ≤ hd t)
  | .tag c f => by
    show decide (16 ≤ (if 16 + j ≤ c then c + m else c)) = decide (16 ≤ c)
    rw [decide_eq_decide]
    split <;> omega
  | .append _ _ => rfl
  | .nil => rfl
  | .line => rfl
  | .align _ => rfl
  | .text _ => rfl
  | .nest _ _ => rfl
  | .group _ _ => rfl
theorem hbv_lft (hh : hb < 16) (j m : Nat) (t : Ty) : hbv hb (lft j m t) = hbv hb t := by
  unfold hbv
  rw [lft_hdb hh, hd_lft_hi]
theorem PNw_lft (hκ : ∀ j m t, κ (lft j m t) = κ t) (hh : hb < 16) (j m : Nat) : ∀ (t : Ty) (d : Nat), j ≤ d → PNw κ hb (d + m) (lft j m t) = PNw κ hb d t
  | .tag c (.append a b), d, hd0 => by
    have h1 := PNw_lft hκ hh j m a d hd0
    have h2 := PNw_lft hκ hh j m b d hd0
    have h3 := PNw_lft hκ hh j m b (d + 1) (by omega)
    have h4 := Wo_lft hκ (r := d) j m b
    rw [show shl j m d = d + m by unfold shl; rw [if_pos hd0]] at h4
    rw [show d + 1 + m = d + m + 1 by omega] at h3
    show PNw κ hb _ (.tag (if 16 + j ≤ c then c + m else c) (.append (lft j m a) (lft j m b))) = _
    rw [PNw, PNw, h1, h2, h3, h4, hbv_lft hh]
    by_cases e : c = 2
    · rw [if_pos (lft_tag2.mpr e), if_pos e]
    · rw [if_neg (fun x => e (lft_tag2.mp x)), if_neg e]
  | .append a b, d, hd0 => by
    show (PNw κ hb _ (lft j m a) && PNw κ hb _ (lft j m b)) = (PNw κ hb d a && PNw κ hb d b)
    rw [PNw_lft hκ hh j m a d hd0, PNw_lft hκ hh j m b d hd0]
  | .tag c .nil, _, _ => rfl
  | .tag c .line, _, _ => rfl
  | .tag c (.align _), _, _ => rfl
  | .tag c (.text _), _, _ => rfl
  | .tag c (.nest _ _), _, _ => rfl
  | .tag c (.group _ _), _, _ => rfl
  | .tag c (.tag _ _), _, _ => rfl
  | .nil, _, _ => rfl
  | .line, _, _ => rfl
  | .align _, _, _ => rfl
  | .text _, _, _ => rfl
  | .nest _ _, _, _ => rfl
  | .group _ _, _, _ => rfl
end PmN1
/-- all bounds are meant -/
def kp2 (_ : Ty) : Bool := true
