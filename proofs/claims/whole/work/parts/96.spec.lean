/-! READING: what a text stands for. -/
/-- the character at a place; nothing behind the end -/
def chr (tx : Nat → Int) (ln p : Nat) : Int := if p < ln then tx p else 0
/-- go on behind something that was read -/
def thn {α β : Type} (a : Nat × Option α) (f : α → Nat → Nat × Option β) : Nat × Option β := match a.2 with
  | none => (a.1, none)
  | some t => f t a.1
theorem thn_none {α β : Type} {a : Nat × Option α} {f : α → Nat → Nat × Option β} {q : Nat} (h : a = (q, none)) : thn a f = (q, none) := by subst h; rfl
theorem thn_some {α β : Type} {a : Nat × Option α} {f : α → Nat → Nat × Option β} {q : Nat} {t : α} (h : a = (q, some t)) : thn a f = f t q := by subst h; rfl
/-- the level of a type variable, names innermost first -/
def lvl : List Int → Int → Option Nat
  | [], _ => none
  | a :: e, c => if a = c then some e.length else lvl e c
theorem lvl_lt : ∀ {e : List Int} {c : Int} {k : Nat}, lvl e c = some k → k < e.length
  | [], _, _, h => by cases h
  | a :: e, c, k, h => by
    by_cases x : a = c
    · have h : (if a = c then some e.length else lvl e c) = some k := h
      rw [if_pos x] at h
      injection h with h
      rw [List.length_cons]; omega
    · have h : (if a = c then some e.length else lvl e c) = some k := h
      rw [if_neg x] at h
      have := lvl_lt h
      rw [List.length_cons]; omega
/-- the parts of a record, from label l on -/
def pFs {α : Type} (tx : Nat → Int) (ln : Nat) (pr : Nat → Nat × Option α) (cl : Int) : Nat → Nat → Nat → Nat × Option (List (Nat × α))
  | 0, _, p => (p, none)
  | k + 1, l, p => if chr tx ln p < 120 + (l : Int) ∨ 123 ≤ chr tx ln p then (p, none) else
    thn (pr (p + 1)) (fun t q => if chr tx ln q = cl then (q + 1, some [((chr tx ln p - 120).toNat, t)]) else if chr tx ln p = 122 ∨ chr tx ln q ≠ 44 then (q, none) else
      thn (pFs tx ln pr cl k ((chr tx ln p - 120).toNat + 1) (q + 1)) (fun r q' => (q', some (((chr tx ln p - 120).toNat, t) :: r))))
/-- a record's set of labels, and its parts -/
def msk {α : Type} : List (Nat × α) → Nat
  | [] => 0
  | a :: r => 2 ^ a.1 + msk r
def lk {α : Type} : List (Nat × α) → Nat → Option α
  | [], _ => none
  | a :: r, g => if a.1 = g then some a.2 else lk r g
def lkT (r : List (Nat × (Ty × Bool))) (g : Nat) : Ty := match lk r g with
  | none => .nil
  | some a => a.1
def allc : List (Nat × (Ty × Bool)) → Bool
  | [] => true
  | a :: r => a.2.2 && allc r
def mkR (r : List (Nat × (Ty × Bool))) : Ty × Bool := (tRec (msk r) (lkT r 0) (lkT r 1) (lkT r 2), allc r)
/-- a type, r levels from the deepest, names e -/
def pT (tx : Nat → Int) (ln : Nat) : Nat → List Int → Nat → Nat × Option (Ty × Bool)
  | 0, e, p => if chr tx ln p = 84 then (p + 1, some (tTop, true)) else if 80 ≤ chr tx ln p ∧ chr tx ln p ≤ 83 then (p + 1, some (tVar ((lvl e (chr tx ln p)).getD 0), (lvl e (chr tx ln p)).isSome)) else if chr tx ln p = 91 then (if chr tx ln (p + 1) = 93 then (p + 2, some (mkR [])) else (p + 1, none)) else (p, none)
  | r + 1, e, p => if chr tx ln p = 84 then (p + 1, some (tTop, true)) else if 80 ≤ chr tx ln p ∧ chr tx ln p ≤ 83 then (p + 1, some (tVar ((lvl e (chr tx ln p)).getD 0), (lvl e (chr tx ln p)).isSome)) else if chr tx ln p = 91 then (if chr tx ln (p + 1) = 93 then (p + 2, some (mkR [])) else thn (pFs tx ln (pT tx ln r e) 93 3 0 (p + 1)) (fun l q => (q, some (mkR l)))) else if chr tx ln p = 40 then
      thn (pT tx ln r e (p + 1)) (fun a q => if chr tx ln q = 62 then thn (pT tx ln r e (q + 1)) (fun b q' => if chr tx ln q' = 41 then (q' + 1, some (tFun a.1 b.1, a.2 && b.2)) else (q', none)) else (q, none))
    else if chr tx ln p = 60 then (if 80 ≤ chr tx ln (p + 1) ∧ chr tx ln (p + 1) ≤ 83 then (if chr tx ln (p + 2) = 58 then
      thn (pT tx ln r e (p + 3)) (fun a q => if chr tx ln q = 62 then thn (pT tx ln r (chr tx ln (p + 1) :: e) (q + 1)) (fun b q' => (q', some (tAll a.1 b.1, a.2 && b.2))) else (q, none))
      else (p + 2, none)) else (p + 1, none))
    else (p, none)
/-- a node of a term: place, kind, mark, parts -/
def mN (p k m : Nat) (x y z : Ty) : Ty := .nest (p : Int) (.tag k (.tag m (.append x (.append y z))))
def nPl : Ty → Nat
  | .nest p _ => p.toNat
  | _ => 0
def nKd : Ty → Nat
  | .nest _ (.tag k _) => k
  | _ => 0
def nMk : Ty → Nat
  | .nest _ (.tag _ (.tag m _)) => m
  | _ => 0
def nX : Ty → Ty
  | .nest _ (.tag _ (.tag _ (.append x _))) => x
  | _ => .nil
def nY : Ty → Ty
  | .nest _ (.tag _ (.tag _ (.append _ (.append y _)))) => y
  | _ => .nil
def nZ : Ty → Ty
  | .nest _ (.tag _ (.tag _ (.append _ (.append _ z)))) => z
  | _ => .nil
/-- the names of types among all names (kind, name, place), innermost first -/
def tnm : List (Nat × Int × Nat) → List Int
  | [] => []
  | a :: e => if a.1 = 0 then a.2.1 :: tnm e else tnm e
/-- the place of the function that binds a name -/
def bnr : List (Nat × Int × Nat) → Int → Option Nat
  | [], _ => none
  | a :: e, c => if a.1 = 1 ∧ a.2.1 = c then some a.2.2 else bnr e c
/-- a type that is no part of another: is it small and closed? -/
def gud (a : Ty × Bool) : Bool := a.2 && decide ((flat a.1).length ≤ 16)
def mkM (p : Nat) (r : List (Nat × (Ty × Bool))) : Ty × Bool := (mN p 10 (msk r) (lkT r 0) (lkT r 1) (lkT r 2), allc r)
/-- a term, r levels from the deepest, names e -/
def pM (tx : Nat → Int) (ln : Nat) : Nat → List (Nat × Int × Nat) → Nat → Nat × Option (Ty × Bool)
  | 0, e, p => if 97 ≤ chr tx ln p ∧ chr tx ln p ≤ 100 then (p + 1, some (mN p 5 ((bnr e (chr tx ln p)).getD 0) .nil .nil .nil, (bnr e (chr tx ln p)).isSome)) else if chr tx ln p = 123 then (if chr tx ln (p + 1) = 125 then (p + 2, some (mkM p [])) else (p + 1, none)) else (p, none)
  | r + 1, e, p => if 97 ≤ chr tx ln p ∧ chr tx ln p ≤ 100 then (p + 1, some (mN p 5 ((bnr e (chr tx ln p)).getD 0) .nil .nil .nil, (bnr e (chr tx ln p)).isSome)) else if chr tx ln p = 123 then (if chr tx ln (p + 1) = 125 then (p + 2, some (mkM p [])) else thn (pFs tx ln (fun q => if chr tx ln q = 61 then pM tx ln r e (q + 1) else (q, none)) 125 3 0 (p + 1)) (fun l q => (q, some (mkM p l))))
    else if chr tx ln p = 92 then (if 97 ≤ chr tx ln (p + 1) ∧ chr tx ln (p + 1) ≤ 100 then (if chr tx ln (p + 2) = 58 then
      thn (pT tx ln r (tnm e) (p + 3)) (fun a q => if chr tx ln q = 46 then thn (pM tx ln r ((1, chr tx ln (p + 1), p) :: e) (q + 1)) (fun b q' => (q', some (mN p 6 (tnm e).length a.1 b.1 .nil, gud a && b.2))) else (q, none))
      else (p + 2, none)) else (p + 1, none))
    else if chr tx ln p = 40 then
      thn (pM tx ln r e (p + 1)) (fun a q => thn (pM tx ln r e q) (fun b q' => if chr tx ln q' = 41 then (q' + 1, some (mN p 7 0 a.1 b.1 .nil, a.2 && b.2)) else (q', none)))
    else if chr tx ln p = 47 then (if 80 ≤ chr tx ln (p + 1) ∧ chr tx ln (p + 1) ≤ 83 then (if chr tx ln (p + 2) = 58 then
      thn (pT tx ln r (tnm e) (p + 3)) (fun a q => if chr tx ln q = 46 then thn (pM tx ln r ((0, chr tx ln (p + 1), p) :: e) (q + 1)) (fun b q' => (q', some (mN p 8 0 a.1 b.1 .nil, gud a && b.2))) else (q, none))
      else (p + 2, none)) else (p + 1, none))
    else if chr tx ln p = 64 then
      thn (pM tx ln r e (p + 1)) (fun a q => thn (pT tx ln r (tnm e) q) (fun b q' => (q', some (mN p 9 0 a.1 b.1 .nil, a.2 && gud b))))
    else if chr tx ln p = 46 then (if 120 ≤ chr tx ln (p + 1) ∧ chr tx ln (p + 1) ≤ 122 then
      thn (pM tx ln r e (p + 2)) (fun a q => (q, some (mN p 11 (chr tx ln (p + 1) - 120).toNat a.1 .nil .nil, a.2))) else (p + 1, none))
    else if chr tx ln p = 63 then (if 48 ≤ chr tx ln (p + 1) ∧ chr tx ln (p + 1) ≤ 49 then
      thn (pM tx ln r e (p + 2)) (fun a q => thn (pM tx ln r e q) (fun b q' => (q', some (mN p 12 (chr tx ln (p + 1) - 48).toNat a.1 b.1 .nil, a.2 && b.2)))) else (p + 1, none))
    else (p, none)
/-- facts on ends: a reading goes forward, and stays within the text -/
def FW {α : Type} (ln p : Nat) (a : Nat × Option α) : Prop := p ≤ a.1 ∧ a.1 ≤ ln ∧ (a.2.isSome = true → p < a.1)
theorem chr_lt {tx : Nat → Int} {ln p : Nat} (h : chr tx ln p ≠ 0) : p < ln := by
  unfold chr at h
  by_cases c : p < ln
  · exact c
  · rw [if_neg c] at h; exact absurd rfl h
theorem FW.thn {α β : Type} {ln p : Nat} {a : Nat × Option α} {f : α → Nat → Nat × Option β} (h : FW ln p a) (hf : ∀ t q, a = (q, some t) → p < q → q ≤ ln → FW ln p (f t q)) : FW ln p (thn a f) := by
  obtain ⟨q, o⟩ := a
  cases o with
  | none => exact ⟨h.1, h.2.1, fun e => by cases e⟩
  | some t => exact hf t q rfl (h.2.2 rfl) h.2.1
theorem FW.up {α : Type} {ln p p' : Nat} {a : Nat × Option α} (h : FW ln p' a) (hp : p ≤ p') : FW ln p a := ⟨by have := h.1; omega, h.2.1, fun e => by have := h.2.2 e; omega⟩
theorem pFs_fw {α : Type} {tx : Nat → Int} {ln : Nat} {pr : Nat → Nat × Option α} {cl : Int} (hcl : cl ≠ 0) (hpr : ∀ p, p ≤ ln → FW ln p (pr p)) : ∀ (k l p : Nat), p ≤ ln → FW ln p (pFs tx ln pr cl k l p)
  | 0, l, p, hp => ⟨Nat.le_refl _, hp, fun e => by cases e⟩
  | k + 1, l, p, hp => by
    have stay : FW ln p ((p, none) : Nat × Option (List (Nat × α))) := ⟨Nat.le_refl _, hp, fun e => by cases e⟩
    show FW ln p (if chr tx ln p < 120 + (l : Int) ∨ 123 ≤ chr tx ln p then (p, none) else _)
    by_cases c : chr tx ln p < 120 + (l : Int) ∨ 123 ≤ chr tx ln p
    · rw [if_pos c]; exact stay
    · rw [if_neg c]
      have h1 : p < ln := chr_lt (tx := tx) (by omega)
      refine FW.thn ((hpr (p + 1) h1).up (by omega)) (fun t q e hq1 hq2 => ?_)
      by_cases c2 : chr tx ln q = cl
      · rw [if_pos c2]
        have : q < ln := chr_lt (tx := tx) (by rw [c2]; exact hcl)
        exact ⟨by show p ≤ q + 1; omega, by show q + 1 ≤ ln; omega, fun _ => by show p < q + 1; omega⟩
      · rw [if_neg c2]
        by_cases c3 : chr tx ln p = 122 ∨ chr tx ln q ≠ 44
        · rw [if_pos c3]; exact ⟨by show p ≤ q; omega, hq2, fun e => by cases e⟩
        · rw [if_neg c3]
          have h44 : chr tx ln q = 44 := by
            by_cases x : chr tx ln q = 44
            · exact x
            · exact absurd (Or.inr x) c3
          have : q < ln := chr_lt (tx := tx) (by rw [h44]; decide)
          refine FW.thn ((pFs_fw hcl hpr k _ (q + 1) (by omega)).up (by omega)) (fun r q' e' h1' h2' => ?_)
          exact ⟨by show p ≤ q'; omega, h2', fun _ => by show p < q'; omega⟩
section PmSp
variable {tx : Nat → Int} {ln : Nat}
theorem fw_none {α : Type} {p q : Nat} (h1 : p ≤ q) (h2 : q ≤ ln) : FW ln p ((q, none) : Nat × Option α) := ⟨h1, h2, fun e => by cases e⟩
theorem fw_some {α : Type} {p q : Nat} {t : α} (h1 : p < q) (h2 : q ≤ ln) : FW ln p ((q, some t) : Nat × Option α) := ⟨by show p ≤ q; omega, h2, fun _ => h1⟩
theorem chr_is {p : Nat} {c : Int} (h : chr tx ln p = c) (hc : c ≠ 0) : p < ln := chr_lt (tx := tx) (by rw [h]; exact hc)
theorem pT_fw : ∀ (r : Nat) (e : List Int) (p : Nat), p ≤ ln → FW ln p (pT tx ln r e p)
  | 0, e, p, hp => by
    show FW ln p (if chr tx ln p = 84 then _ else _)
    by_cases c1 : chr tx ln p = 84
    · have := chr_is c1 (by decide)
      rw [if_pos c1]; exact fw_some (by omega) (by omega)
    rw [if_neg c1]
    by_cases c2 : 80 ≤ chr tx ln p ∧ chr tx ln p ≤ 83
    · have : p < ln := chr_lt (tx := tx) (by omega)
      rw [if_pos c2]; exact fw_some (by omega) (by omega)
    rw [if_neg c2]
    by_cases c3 : chr tx ln p = 91
    · have := chr_is c3 (by decide)
      rw [if_pos c3]
      by_cases c4 : chr tx ln (p + 1) = 93
      · have := chr_is c4 (by decide)
        rw [if_pos c4]; exact fw_some (by omega) (by omega)
      · rw [if_neg c4]; exact fw_none (by omega) (by omega)
    rw [if_neg c3]
    exact fw_none (by omega) hp
  | r + 1, e, p, hp => by
    show FW ln p (if chr tx ln p = 84 then _ else _)
    by_cases c1 : chr tx ln p = 84
    · have := chr_is c1 (by decide)
      rw [if_pos c1]; exact fw_some (by omega) (by omega)
    rw [if_neg c1]
    by_cases c2 : 80 ≤ chr tx ln p ∧ chr tx ln p ≤ 83
    · have : p < ln := chr_lt (tx := tx) (by omega)
      rw [if_pos c2]; exact fw_some (by omega) (by omega)
    rw [if_neg c2]
    by_cases c3 : chr tx ln p = 91
    · have := chr_is c3 (by decide)
      rw [if_pos c3]
      by_cases c4 : chr tx ln (p + 1) = 93
      · have := chr_is c4 (by decide)
        rw [if_pos c4]; exact fw_some (by omega) (by omega)
      · rw [if_neg c4]
        refine FW.thn ((pFs_fw (by decide) (fun p hp => pT_fw r e p hp) 3 0 (p + 1) (by omega)).up (by omega)) (fun l q _ h1 h2 => fw_some h1 h2)
    rw [if_neg c3]
    by_cases c5 : chr tx ln p = 40
    · have := chr_is c5 (by decide)
      rw [if_pos c5]
      refine FW.thn ((pT_fw r e (p + 1) (by omega)).up (by omega)) (fun a q _ h1 h2 => ?_)
      by_cases c6 : chr tx ln q = 62
      · have := chr_is c6 (by decide)
        rw [if_pos c6]
        refine FW.thn ((pT_fw r e (q + 1) (by omega)).up (by omega)) (fun b q' _ h3 h4 => ?_)
        by_cases c7 : chr tx ln q' = 41
        · have := chr_is c7 (by decide)
          rw [if_pos c7]; exact fw_some (by omega) (by omega)
        · rw [if_neg c7]; exact fw_none (by omega) h4
      · rw [if_neg c6]; exact fw_none (by omega) h2
    rw [if_neg c5]
    by_cases c8 : chr tx ln p = 60
    · have := chr_is c8 (by decide)
      rw [if_pos c8]
      by_cases c9 : 80 ≤ chr tx ln (p + 1) ∧ chr tx ln (p + 1) ≤ 83
      · have : p + 1 < ln := chr_lt (tx := tx) (by omega)
        rw [if_pos c9]
        by_cases c10 : chr tx ln (p + 2) = 58
        · have := chr_is c10 (by decide)
          rw [if_pos c10]
          refine FW.thn ((pT_fw r e (p + 3) (by omega)).up (by omega)) (fun a q _ h1 h2 => ?_)
          by_cases c6 : chr tx ln q = 62
          · have := chr_is c6 (by decide)
            rw [if_pos c6]
            refine FW.thn ((pT_fw r _ (q + 1) (by omega)).up (by omega)) (fun b q' _ h3 h4 => fw_some h3 h4)
          · rw [if_neg c6]; exact fw_none (by omega) h2
        · rw [if_neg c10]; exact fw_none (by omega) (by omega)
      · rw [if_neg c9]; exact fw_none (by omega) (by omega)
    rw [if_neg c8]
    exact fw_none (by omega) hp
end PmSp
