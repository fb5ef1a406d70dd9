/-! WHAT IS BUILT OF PARTS: the same three cases for functions, schemes and records. -/
def FN (w : Nat) (pr : List Int) (rs : List Rs) (r : Rs) : Prop :=
  (none ∈ rs → r = tn w) ∧ (none ∉ rs → (some none ∈ rs ∨ ∃ ts : List Ty, rs = ts.map okT ∧ 16 < pr.length + (fla ts).length) → r = some none) ∧ (∀ ts : List Ty, rs = ts.map okT → pr.length + (fla ts).length ≤ 16 → ∃ R, r = some (some R) ∧ flat R = pr ++ fla ts)
theorem okT_none {ts : List Ty} {rs : List Rs} (h : rs = ts.map okT) : none ∉ rs ∧ some none ∉ rs := by
  subst h
  constructor
  · intro e
    obtain ⟨t, -, ht⟩ := List.mem_map.mp e
    cases ht
  · intro e
    obtain ⟨t, -, ht⟩ := List.mem_map.mp e
    cases ht
theorem FN_none {w : Nat} {pr : List Int} {rs : List Rs} (h : none ∈ rs) : FN w pr rs (tn w) :=
  ⟨fun _ => rfl, fun h' => absurd h h', fun ts e => absurd h (okT_none e).1⟩
theorem FN_large {w : Nat} {pr : List Int} {rs : List Rs} (h : none ∉ rs) (h' : some none ∈ rs) : FN w pr rs (some none) :=
  ⟨fun e => absurd e h, fun _ _ => rfl, fun ts e => absurd h' (okT_none e).2⟩
theorem okT_inj : ∀ {a b : List Ty}, a.map okT = b.map okT → a = b
  | [], [], _ => rfl
  | [], _ :: _, h => by cases h
  | _ :: _, [], h => by cases h
  | x :: a, y :: b, h => by
    simp only [List.map_cons, List.cons.injEq] at h
    obtain ⟨h1, h2⟩ := h
    have e : x = y := by
      unfold okT at h1
      cases h1
      rfl
    rw [e, okT_inj h2]
theorem FN_lim {w : Nat} {pr : List Int} {ts : List Ty} {R : Ty} (h : flat R = pr ++ fla ts) : FN w pr (ts.map okT) (lim R) := by
  have hl : (flat R).length = pr.length + (fla ts).length := by rw [h, List.length_append]
  refine ⟨fun e => absurd e (okT_none rfl).1, fun _ e => ?_, fun ts' e hh => ?_⟩
  · rcases e with e | ⟨ts', e, hh⟩
    · exact absurd e (okT_none rfl).2
    · have := okT_inj e
      subst this
      unfold lim
      rw [if_neg (by omega)]
  · have := okT_inj e
    subst this
    refine ⟨R, ?_, h⟩
    unfold lim
    rw [if_pos (by omega)]
theorem FN_fun (w : Nat) : ∀ r1 r2 : Rs, FN w [1] [r1, r2] (bFun w r1 r2)
  | none, _ => FN_none (by simp)
  | some _, none => FN_none (by simp)
  | some none, some _ => FN_large (by simp) (by simp)
  | some (some _), some none => FN_large (by simp) (by simp)
  | some (some a), some (some b) => FN_lim (ts := [a, b]) (by rw [flat_fun]; simp [fla])
theorem FN_all (w : Nat) (A : Ty) : ∀ r : Rs, FN w (2 :: flat A) [r] (bAll w A r)
  | none => FN_none (by simp)
  | some none => FN_large (by simp) (by simp)
  | some (some b) => FN_lim (ts := [b]) (by rw [flat_all]; simp [fla])
theorem FN_rec (w m : Nat) (c0 c1 c2 : Bool) : ∀ r0 r1 r2 : Rs, (c0 = false → r0 = okT .nil) → (c1 = false → r1 = okT .nil) → (c2 = false → r2 = okT .nil) → FN w [((8 + m : Nat) : Int)] ((if c0 = true then [r0] else []) ++ ((if c1 = true then [r1] else []) ++ (if c2 = true then [r2] else []))) (bRec w m r0 r1 r2) := by
  intro r0 r1 r2 h0 h1 h2
  have hn : flat (.nil : Ty) = [] := rfl
  cases c0 <;> cases c1 <;> cases c2
  all_goals
    try rw [h0 rfl]
    try rw [h1 rfl]
    try rw [h2 rfl]
    simp only [if_true, List.nil_append, List.append_nil, List.cons_append, Bool.false_eq_true, if_false]
  · exact FN_lim (ts := []) (by rw [flat_rec]; simp [fla, hn])
  · match r2 with
    | none => exact FN_none (by simp)
    | some none => exact FN_large (by simp) (by simp)
    | some (some c) => exact FN_lim (ts := [c]) (by rw [flat_rec]; simp [fla, hn])
  · match r1 with
    | none => exact FN_none (by simp)
    | some none => exact FN_large (by simp) (by simp)
    | some (some c) => exact FN_lim (ts := [c]) (by rw [flat_rec]; simp [fla, hn])
  · match r1, r2 with
    | none, _ => exact FN_none (by simp)
    | some _, none => exact FN_none (by simp)
    | some none, some _ => exact FN_large (by simp) (by simp)
    | some (some _), some none => exact FN_large (by simp) (by simp)
    | some (some a), some (some b) => exact FN_lim (ts := [a, b]) (by rw [flat_rec]; simp [fla, hn])
  · match r0 with
    | none => exact FN_none (by simp)
    | some none => exact FN_large (by simp) (by simp)
    | some (some c) => exact FN_lim (ts := [c]) (by rw [flat_rec]; simp [fla, hn])
  · match r0, r2 with
    | none, _ => exact FN_none (by simp)
    | some _, none => exact FN_none (by simp)
    | some none, some _ => exact FN_large (by simp) (by simp)
    | some (some _), some none => exact FN_large (by simp) (by simp)
    | some (some a), some (some b) => exact FN_lim (ts := [a, b]) (by rw [flat_rec]; simp [fla, hn])
  · match r0, r1 with
    | none, _ => exact FN_none (by simp)
    | some _, none => exact FN_none (by simp)
    | some none, some _ => exact FN_large (by simp) (by simp)
    | some (some _), some none => exact FN_large (by simp) (by simp)
    | some (some a), some (some b) => exact FN_lim (ts := [a, b]) (by rw [flat_rec]; simp [fla, hn])
  · match r0, r1, r2 with
    | none, _, _ => exact FN_none (by simp)
    | some _, none, _ => exact FN_none (by simp)
    | some _, some _, none => exact FN_none (by simp)
    | some none, some _, some _ => exact FN_large (by simp) (by simp)
    | some (some _), some none, some _ => exact FN_large (by simp) (by simp)
    | some (some _), some (some _), some none => exact FN_large (by simp) (by simp)
    | some (some a), some (some b), some (some c) => exact FN_lim (ts := [a, b, c]) (by rw [flat_rec]; simp [fla])
