/-! WHICH HEADERS ARE CUT: those whose bound bears two leaves. -/
theorem flv_lft (j m : Nat) : ∀ t : Ty, flv (lft j m t) = flv t
  | .tag c (.append a b) => by
    have h1 := flv_lft j m a
    have h2 := flv_lft j m b
    show flv (.tag (if 16 + j ≤ c then c + m else c) (.append (lft j m a) (lft j m b))) = _
    rw [flv, flv, h1, h2]
    by_cases e : c = 2
    · rw [if_pos (lft_tag2.mpr e), if_pos e]
    · rw [if_neg (fun x => e (lft_tag2.mp x)), if_neg e]
  | .append a b => by
    show flv (lft j m a) + flv (lft j m b) = flv a + flv b
    rw [flv_lft j m a, flv_lft j m b]
  | .tag c .nil => by
    show flv (.tag (if 16 + j ≤ c then c + m else c) .nil) = flv (.tag c .nil)
    rw [flv, flv]
    by_cases e : 16 ≤ c
    · rw [if_pos (by split <;> omega), if_pos e]
    · rw [if_neg (by split <;> omega), if_neg e]
  | .tag c .line => rfl
  | .tag c (.align _) => rfl
  | .tag c (.text _) => rfl
  | .tag c (.nest _ _) => rfl
  | .tag c (.group _ _) => rfl
  | .tag c (.tag _ _) => rfl
  | .nil => rfl
  | .line => rfl
  | .align _ => rfl
  | .text _ => rfl
  | .nest _ _ => rfl
  | .group _ _ => rfl
def kap (b : Ty) : Bool := decide (2 ≤ flv b)
theorem kap_lft : ∀ j m t, kap (lft j m t) = kap t := by
  intro j m t
  unfold kap
  rw [flv_lft]
