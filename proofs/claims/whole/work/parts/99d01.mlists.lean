/-! THE MODEL: the nodes of a term, as a list of codes. -/
def tcode (k m : Nat) : Int := if k = 10 then -100 - (m : Int) else -(k : Int)
def tfl : Ty → List Int
  | .nest _ (.tag k (.tag m (.append x (.append y z)))) => tcode k m :: (tfl x ++ (tfl y ++ tfl z))
  | .tag c f => flat (.tag c f)
  | _ => []
theorem tfl_mN (p k m : Nat) (x y z : Ty) : tfl (mN p k m x y z) = tcode k m :: (tfl x ++ (tfl y ++ tfl z)) := rfl
theorem tfl_ty {D : Nat} {t : Ty} (h : ok D t = true) : tfl t = flat t := by
  rcases ok_cases h with rfl | ⟨k, -, rfl⟩ | ⟨a, b, rfl, -, -⟩ | ⟨a, b, rfl, -, -⟩ | ⟨m, x, y, z, -, rfl, -, -, -⟩ <;> rfl
theorem sty_nil : STy [] := fun k c h => by simp at h
theorem sty_neg {c : Int} {l : List Int} (hc : c < 0) (h : STy l) : STy (c :: l) := by
  intro k x hk hx
  cases k with
  | zero =>
    rw [List.getElem?_cons_zero] at hk
    injection hk with hk
    omega
  | succ k =>
    rw [List.getElem?_cons_succ] at hk
    obtain ⟨t, D, post, o1, o2⟩ := h k x hk hx
    exact ⟨t, D, post, o1, by rw [List.drop_succ_cons]; exact o2⟩
theorem sty_app {l1 l2 : List Int} (h1 : STy l1) (h2 : STy l2) : STy (l1 ++ l2) := by
  intro k x hk hx
  by_cases c : k < l1.length
  · rw [List.getElem?_append_left c] at hk
    obtain ⟨t, D, post, o1, o2⟩ := h1 k x hk hx
    refine ⟨t, D, post ++ l2, o1, ?_⟩
    rw [List.drop_append_of_le_length (by omega), o2, List.append_assoc]
  · rw [List.getElem?_append_right (by omega)] at hk
    obtain ⟨t, D, post, o1, o2⟩ := h2 _ x hk hx
    refine ⟨t, D, post, o1, ?_⟩
    rw [show k = l1.length + (k - l1.length) by omega, ← List.drop_drop, List.drop_left]
    exact o2
theorem flat_cons {D : Nat} {t : Ty} (h : ok D t = true) : ∃ (c : Int) (r : List Int), flat t = c :: r ∧ 0 ≤ c := by
  obtain ⟨r, hr⟩ := flat_hd h
  exact ⟨_, r, hr, by omega⟩
theorem sok_neg {c : Int} {l : List Int} {b : Bool} (hc : c < 0) : SOk (c :: l) b ↔ SOk l b := by
  refine ⟨fun h => ⟨h.1, fun k t D post o e => h.2 (k + 1) t D post o (by rw [List.drop_succ_cons]; exact e)⟩, fun h => ⟨h.1, fun k t D post o e => ?_⟩⟩
  cases k with
  | zero =>
    obtain ⟨x, r, hx, h0⟩ := flat_cons o
    rw [hx] at e
    injection e with e1 e2
    omega
  | succ k => exact h.2 k t D post o (by rw [List.drop_succ_cons] at e; exact e)
theorem sok_nil {b : Bool} : SOk [] b ↔ b = true := by
  refine ⟨fun h => h.1, fun h => ⟨h, fun k t D post o e => ?_⟩⟩
  obtain ⟨x, r, hx, h0⟩ := flat_cons o
  rw [hx] at e
  simp at e
theorem sok_app {l1 l2 : List Int} {b1 b2 : Bool} (hs : STy l1) : SOk (l1 ++ l2) (b1 && b2) ↔ SOk l1 b1 ∧ SOk l2 b2 := by
  constructor
  · intro h
    have hb := h.1
    rw [Bool.and_eq_true] at hb
    refine ⟨⟨hb.1, fun k t D post o e => ?_⟩, hb.2, fun k t D post o e => ?_⟩
    · refine h.2 k t D (post ++ l2) o ?_
      have hk : k ≤ l1.length := by
        by_cases c : k ≤ l1.length
        · exact c
        · rw [List.drop_eq_nil_of_le (by omega)] at e
          obtain ⟨x, r, hx, h0⟩ := flat_cons o
          rw [hx] at e
          cases e
      rw [List.drop_append_of_le_length hk, e, List.append_assoc]
    · refine h.2 (l1.length + k) t D post o ?_
      rw [← List.drop_drop, List.drop_left]; exact e
  · intro h
    obtain ⟨⟨a1, a2⟩, c1, c2⟩ := h
    refine ⟨by rw [a1, c1]; rfl, fun k t D post o e => ?_⟩
    by_cases c : k < l1.length
    · rw [List.drop_append_of_le_length (by omega)] at e
      obtain ⟨x, r, hx, h0⟩ := flat_cons o
      have hd0 : l1.drop k = l1[k] :: l1.drop (k + 1) := List.drop_eq_getElem_cons c
      have ex : l1[k] = x := by
        rw [hd0, hx] at e
        injection e
      obtain ⟨t', D', post', o1, o2⟩ := hs k x (by rw [List.getElem?_eq_getElem c, ex]) h0
      rw [o2, List.append_assoc] at e
      obtain ⟨e1, -⟩ := flat_inj t' D' t D _ _ o1 o e
      rw [← e1]
      exact a2 k t' D' post' o1 o2
    · rw [show k = l1.length + (k - l1.length) by omega, ← List.drop_drop, List.drop_left] at e
      exact c2 _ t D post o e
section PmD1
variable {lo nd sc nd' sc' nd2 sc2 k j : Nat} {N N' : pm_M}
theorem NX.move {c : Int} {b : Bool} (h : MFr nd2 sc2 k N N') (hj : j < nd2) (h1 : nd ≤ nd2) (h2 : sc ≤ sc2) (h3 : nd ≤ nd') (h4 : sc ≤ sc') (t : NX lo N nd sc (j : Int) c b) : NX lo N' nd' sc' (j : Int) c b := by
  have e59 : N' 59 (j : Int) = N 59 (j : Int) := h 59 _ (by unfold WMr; omega)
  have e60 : N' 60 (j : Int) = N 60 (j : Int) := h 60 _ (by unfold WMr; omega)
  have e62 : N' 62 (j : Int) = N 62 (j : Int) := h 62 _ (by unfold WMr; omega)
  unfold NX at *
  rw [e59, e60, e62]
  rcases t with ⟨c0, t⟩ | ⟨t1, t2, t3, ch, t4, t5⟩ | t | t
  · exact Or.inl ⟨c0, t.move h hj h1 h2 h3 h4⟩
  · exact Or.inr (Or.inl ⟨t1, t2, t3, ch, (t4.same (h.low h1 h2 (Nat.zero_le _))).up h3 h4, t5⟩)
  · exact Or.inr (Or.inr (Or.inl t))
  · exact Or.inr (Or.inr (Or.inr t))
theorem NXl.move (h : MFr nd2 sc2 k N N') (h1 : nd ≤ nd2) (h2 : sc ≤ sc2) (h3 : nd ≤ nd') (h4 : sc ≤ sc') : ∀ {l : List Int} {i : Nat} {b : Bool}, i + l.length ≤ nd2 → NXl lo N nd sc i l b → NXl lo N' nd' sc' i l b
  | [], _, _, _, t => t
  | c :: l, i, b, hi, ⟨b1, b2, t1, t2, t3⟩ => by
    rw [List.length_cons] at hi
    exact ⟨b1, b2, t1.move h (by omega) h1 h2 h3 h4, NXl.move h h1 h2 h3 h4 (by omega) t2, t3⟩
/-- what was read: codes, types, closed and small, how many trees -/
def TQ (m : Nat) (N : pm_M) (nd sc j : Nat) (l : List Int) (b g : Bool) : Prop := NXl 64 N nd sc j l b ∧ STy l ∧ (SOk l b ↔ g = true) ∧ prx m l = true
theorem TQ.move {m : Nat} {l : List Int} {b g : Bool} (t : TQ m N nd sc j l b g) (h : MFr nd2 sc2 k N N') (h1 : nd ≤ nd2) (h2 : sc ≤ sc2) (h3 : nd ≤ nd') (h4 : sc ≤ sc') (hi : j + l.length ≤ nd2) : TQ m N' nd' sc' j l b g := ⟨t.1.move h h1 h2 h3 h4 hi, t.2⟩
theorem TQ.ty {D : Nat} {a : Ty × Bool} (h : NTl 64 N nd sc j (flat a.1) a.2) (o : ok D a.1 = true) : TQ 1 N nd sc j (flat a.1) a.2 (gud a) := ⟨h.nx, flat_sty o, flat_sok o, prx_pre h.pos (ok_pre _ _ o)⟩
theorem TQ.nil : TQ 0 N nd sc j [] true true := ⟨rfl, sty_nil, sok_nil, rfl⟩
theorem TQ.app {m m' : Nat} {l l' : List Int} {b b' g g' : Bool} (t : TQ m N nd sc j l b g) (t' : TQ m' N nd sc (j + l.length) l' b' g') : TQ (m + m') N nd sc j (l ++ l') (b && b') (g && g') := ⟨t.1.app t'.1, sty_app t.2.1 t'.2.1, by rw [sok_app t.2.1, Bool.and_eq_true, t.2.2.1, t'.2.2.1], prx_app t.2.2.2 t'.2.2.2⟩
theorem TQ.cons {c : Int} {l : List Int} {b g : Bool} (hx : NX 64 N nd sc (j : Int) c true) (hc : c < 0) (t : TQ (xar c) N nd sc (j + 1) l b g) : TQ 1 N nd sc j (c :: l) b g := ⟨⟨true, b, hx, t.1, rfl⟩, sty_neg hc t.2.1, by rw [sok_neg hc]; exact t.2.2.1, by
  show prx (0 + xar c) l = true
  rw [Nat.zero_add]; exact t.2.2.2⟩
/-- the nodes of a term, each with the binders around it -/
def MNd (lo : Nat) (N : pm_M) (nd sc : Nat) : Nat → Ty → Int → List (Nat × Int × Nat) → Nat → Prop
  | 0, _, _, _, _ => False
  | f + 1, t, s, ch, j => (j < nd ∧ N 59 (j : Int) = (nKd t : Int) ∧ N 61 (j : Int) = (nPl t : Int) ∧ N 62 (j : Int) = s ∧ SCh lo N nd sc s ch) ∧ (nKd t = 5 → (0 ≤ N 60 (j : Int) ∧ N 60 (j : Int) ≤ 3) ∧ bnr ch (97 + N 60 (j : Int)) = some (nMk t)) ∧ (10 ≤ nKd t → N 60 (j : Int) = (nMk t : Int)) ∧ (sk (nKd t) (nMk t) 0 = 1 → MNd lo N nd sc f (nX t) s ch (j + 1)) ∧ (sk (nKd t) (nMk t) 0 = 2 → NTl lo N nd sc (j + 1) (flat (nX t)) true ∧ j + 1 + (flat (nX t)).length ≤ nd) ∧ (sk (nKd t) (nMk t) 1 = 1 → ¬ (nKd t = 6 ∨ nKd t = 8) → MNd lo N nd sc f (nY t) s ch (j + 1 + (tfl (nX t)).length)) ∧ (nKd t = 6 ∨ nKd t = 8 → ∃ nm, (N 67 (N 63 (j : Int)) = (j : Int) ∧ N 64 (N 63 (j : Int)) = s) ∧ SCh lo N nd sc (N 63 (j : Int)) ((if nKd t = 6 then 1 else 0, nm, nPl t) :: ch) ∧ MNd lo N nd sc f (nY t) (N 63 (j : Int)) ((if nKd t = 6 then 1 else 0, nm, nPl t) :: ch) (j + 1 + (tfl (nX t)).length)) ∧ (sk (nKd t) (nMk t) 1 = 2 → NTl lo N nd sc (j + 1 + (tfl (nX t)).length) (flat (nY t)) true ∧ j + 1 + (tfl (nX t)).length + (flat (nY t)).length ≤ nd) ∧ (sk (nKd t) (nMk t) 2 = 1 → MNd lo N nd sc f (nZ t) s ch (j + 1 + (tfl (nX t)).length + (tfl (nY t)).length))
theorem MNd.move (h : MFr nd2 sc2 k N N') (h1 : nd ≤ nd2) (h2 : sc ≤ sc2) (h3 : nd ≤ nd') (h4 : sc ≤ sc') : ∀ {f : Nat} {t : Ty} {s : Int} {ch : List (Nat × Int × Nat)} {j : Nat}, MNd lo N nd sc f t s ch j → MNd lo N' nd' sc' f t s ch j
  | 0, _, _, _, _, t => t.elim
  | f + 1, t, s, ch, j, ⟨⟨a1, a2, a3, a40, a4⟩, a5, a6, a7, a8, a9, b1, b2, b3⟩ => by
    have e59 : N' 59 (j : Int) = N 59 (j : Int) := h 59 _ (by unfold WMr; omega)
    have e60 : N' 60 (j : Int) = N 60 (j : Int) := h 60 _ (by unfold WMr; omega)
    have e61 : N' 61 (j : Int) = N 61 (j : Int) := h 61 _ (by unfold WMr; omega)
    have e62 : N' 62 (j : Int) = N 62 (j : Int) := h 62 _ (by unfold WMr; omega)
    have e63 : N' 63 (j : Int) = N 63 (j : Int) := h 63 _ (by unfold WMr; omega)
    have hs : ∀ {s : Int} {c : List (Nat × Int × Nat)}, SCh lo N nd sc s c → SCh lo N' nd' sc' s c := fun x => (x.same (h.low h1 h2 (Nat.zero_le _))).up h3 h4
    refine ⟨⟨by omega, e59.trans a2, e61.trans a3, e62.trans a40, hs a4⟩, fun x => by rw [e60]; exact a5 x, fun x => by rw [e60]; exact a6 x, fun x => (a7 x).move h h1 h2 h3 h4, fun x => ⟨(a8 x).1.move h h1 h2 h3 h4 (by have := (a8 x).2; omega), by have := (a8 x).2; omega⟩, fun x y => (a9 x y).move h h1 h2 h3 h4, fun x => ?_, fun x => ⟨(b2 x).1.move h h1 h2 h3 h4 (by have := (b2 x).2; omega), by have := (b2 x).2; omega⟩, fun x => (b3 x).move h h1 h2 h3 h4⟩
    obtain ⟨nm, c0, c1, c2⟩ := b1 x
    have cr := c1.1
    exact ⟨nm, by rw [e63, h 67 _ (by unfold WMr; omega), h 64 _ (by unfold WMr; omega)]; exact c0, by rw [e63]; exact hs c1, by rw [e63]; exact c2.move h h1 h2 h3 h4⟩
end PmD1
section PmD2
variable {lo nd sc f p j : Nat} {s : Int} {N : pm_M} {ch : List (Nat × Int × Nat)} {x y z : Ty}
theorem MNd.word {m : Nat} (hj : j < nd) (nb : NB N j 5 p s) (hs : SCh lo N nd sc s ch) (ha : 0 ≤ N 60 (j : Int) ∧ N 60 (j : Int) ≤ 3) (hb : bnr ch (97 + N 60 (j : Int)) = some m) : MNd lo N nd sc (f + 1) (mN p 5 m .nil .nil .nil) s ch j :=
  ⟨⟨hj, nb.1, nb.2.1, nb.2.2, hs⟩, fun _ => ⟨ha, hb⟩, fun h => absurd (show 10 ≤ 5 from h) (by decide), fun h => absurd (show (0 : Nat) = 1 from h) (by decide), fun h => absurd (show (0 : Nat) = 2 from h) (by decide), fun h => absurd (show (0 : Nat) = 1 from h) (by decide), fun h => absurd (show 5 = 6 ∨ 5 = 8 from h) (by decide), fun h => absurd (show (0 : Nat) = 2 from h) (by decide), fun h => absurd (show (0 : Nat) = 1 from h) (by decide)⟩
theorem MNd.lam {m : Nat} {D : Nat} {nm : Int} (hj : j < nd) (nb : NB N j 6 p s) (hs : SCh lo N nd sc s ch) (ox : ok D x = true) (hx : NTl lo N nd sc (j + 1) (flat x) true) (hl : j + 1 + (flat x).length ≤ nd) (h67 : N 67 (N 63 (j : Int)) = (j : Int) ∧ N 64 (N 63 (j : Int)) = s) (hb : SCh lo N nd sc (N 63 (j : Int)) ((1, nm, p) :: ch)) (hy : MNd lo N nd sc f y (N 63 (j : Int)) ((1, nm, p) :: ch) (j + 1 + (flat x).length)) : MNd lo N nd sc (f + 1) (mN p 6 m x y .nil) s ch j :=
  ⟨⟨hj, nb.1, nb.2.1, nb.2.2, hs⟩, fun h => absurd (show 6 = 5 from h) (by decide), fun h => absurd (show 10 ≤ 6 from h) (by decide), fun h => absurd (show (2 : Nat) = 1 from h) (by decide), fun _ => ⟨hx, hl⟩, fun _ h => absurd (show 6 = 6 ∨ 6 = 8 from Or.inl rfl) h, fun _ => ⟨nm, h67, hb, by
    show MNd lo N nd sc f y (N 63 (j : Int)) ((1, nm, p) :: ch) (j + 1 + (tfl x).length)
    rw [tfl_ty ox]; exact hy⟩, fun h => absurd (show (1 : Nat) = 2 from h) (by decide), fun h => absurd (show (0 : Nat) = 1 from h) (by decide)⟩
theorem MNd.all {m : Nat} {D : Nat} {nm : Int} (hj : j < nd) (nb : NB N j 8 p s) (hs : SCh lo N nd sc s ch) (ox : ok D x = true) (hx : NTl lo N nd sc (j + 1) (flat x) true) (hl : j + 1 + (flat x).length ≤ nd) (h67 : N 67 (N 63 (j : Int)) = (j : Int) ∧ N 64 (N 63 (j : Int)) = s) (hb : SCh lo N nd sc (N 63 (j : Int)) ((0, nm, p) :: ch)) (hy : MNd lo N nd sc f y (N 63 (j : Int)) ((0, nm, p) :: ch) (j + 1 + (flat x).length)) : MNd lo N nd sc (f + 1) (mN p 8 m x y .nil) s ch j :=
  ⟨⟨hj, nb.1, nb.2.1, nb.2.2, hs⟩, fun h => absurd (show 8 = 5 from h) (by decide), fun h => absurd (show 10 ≤ 8 from h) (by decide), fun h => absurd (show (2 : Nat) = 1 from h) (by decide), fun _ => ⟨hx, hl⟩, fun _ h => absurd (show 8 = 6 ∨ 8 = 8 from Or.inr rfl) h, fun _ => ⟨nm, h67, hb, by
    show MNd lo N nd sc f y (N 63 (j : Int)) ((0, nm, p) :: ch) (j + 1 + (tfl x).length)
    rw [tfl_ty ox]; exact hy⟩, fun h => absurd (show (1 : Nat) = 2 from h) (by decide), fun h => absurd (show (0 : Nat) = 1 from h) (by decide)⟩
theorem MNd.app (hj : j < nd) (nb : NB N j 7 p s) (hs : SCh lo N nd sc s ch) (hx : MNd lo N nd sc f x s ch (j + 1)) (hy : MNd lo N nd sc f y s ch (j + 1 + (tfl x).length)) : MNd lo N nd sc (f + 1) (mN p 7 0 x y .nil) s ch j :=
  ⟨⟨hj, nb.1, nb.2.1, nb.2.2, hs⟩, fun h => absurd (show 7 = 5 from h) (by decide), fun h => absurd (show 10 ≤ 7 from h) (by decide), fun _ => hx, fun h => absurd (show (1 : Nat) = 2 from h) (by decide), fun _ _ => hy, fun h => absurd (show 7 = 6 ∨ 7 = 8 from h) (by decide), fun h => absurd (show (1 : Nat) = 2 from h) (by decide), fun h => absurd (show (0 : Nat) = 1 from h) (by decide)⟩
theorem MNd.att (hj : j < nd) (nb : NB N j 9 p s) (hs : SCh lo N nd sc s ch) (hx : MNd lo N nd sc f x s ch (j + 1)) (hy : NTl lo N nd sc (j + 1 + (tfl x).length) (flat y) true) (hl : j + 1 + (tfl x).length + (flat y).length ≤ nd) : MNd lo N nd sc (f + 1) (mN p 9 0 x y .nil) s ch j :=
  ⟨⟨hj, nb.1, nb.2.1, nb.2.2, hs⟩, fun h => absurd (show 9 = 5 from h) (by decide), fun h => absurd (show 10 ≤ 9 from h) (by decide), fun _ => hx, fun h => absurd (show (1 : Nat) = 2 from h) (by decide), fun h => absurd (show (2 : Nat) = 1 from h) (by decide), fun h => absurd (show 9 = 6 ∨ 9 = 8 from h) (by decide), fun _ => ⟨hy, hl⟩, fun h => absurd (show (0 : Nat) = 1 from h) (by decide)⟩
theorem MNd.dot {m : Nat} (hj : j < nd) (nb : NB N j 11 p s) (hs : SCh lo N nd sc s ch) (ha : N 60 (j : Int) = (m : Int)) (hx : MNd lo N nd sc f x s ch (j + 1)) : MNd lo N nd sc (f + 1) (mN p 11 m x .nil .nil) s ch j :=
  ⟨⟨hj, nb.1, nb.2.1, nb.2.2, hs⟩, fun h => absurd (show 11 = 5 from h) (by decide), fun _ => ha, fun _ => hx, fun h => absurd (show (1 : Nat) = 2 from h) (by decide), fun h => absurd (show (0 : Nat) = 1 from h) (by decide), fun h => absurd (show 11 = 6 ∨ 11 = 8 from h) (by decide), fun h => absurd (show (0 : Nat) = 2 from h) (by decide), fun h => absurd (show (0 : Nat) = 1 from h) (by decide)⟩
theorem MNd.eit {m : Nat} (hj : j < nd) (nb : NB N j 12 p s) (hs : SCh lo N nd sc s ch) (ha : N 60 (j : Int) = (m : Int)) (hx : MNd lo N nd sc f x s ch (j + 1)) (hy : MNd lo N nd sc f y s ch (j + 1 + (tfl x).length)) : MNd lo N nd sc (f + 1) (mN p 12 m x y .nil) s ch j :=
  ⟨⟨hj, nb.1, nb.2.1, nb.2.2, hs⟩, fun h => absurd (show 12 = 5 from h) (by decide), fun _ => ha, fun _ => hx, fun h => absurd (show (1 : Nat) = 2 from h) (by decide), fun _ _ => hy, fun h => absurd (show 12 = 6 ∨ 12 = 8 from h) (by decide), fun h => absurd (show (1 : Nat) = 2 from h) (by decide), fun h => absurd (show (0 : Nat) = 1 from h) (by decide)⟩
theorem sk_rec {m g : Nat} : (sk 10 m g = 1 ↔ bit m g = true) ∧ sk 10 m g ≠ 2 := by
  have e : sk 10 m g = if bit m g = true then 1 else 0 := rfl
  rw [e]
  by_cases h : bit m g = true
  · rw [if_pos h]; exact ⟨⟨fun _ => h, fun _ => rfl⟩, by decide⟩
  · rw [if_neg h]; exact ⟨⟨fun x => absurd x (by decide), fun x => absurd x h⟩, by decide⟩
theorem MNd.rcd {m : Nat} (hj : j < nd) (nb : NB N j 10 p s) (hs : SCh lo N nd sc s ch) (ha : N 60 (j : Int) = (m : Int)) (hx : bit m 0 = true → MNd lo N nd sc f x s ch (j + 1)) (hy : bit m 1 = true → MNd lo N nd sc f y s ch (j + 1 + (tfl x).length)) (hz : bit m 2 = true → MNd lo N nd sc f z s ch (j + 1 + (tfl x).length + (tfl y).length)) : MNd lo N nd sc (f + 1) (mN p 10 m x y z) s ch j :=
  ⟨⟨hj, nb.1, nb.2.1, nb.2.2, hs⟩, fun h => absurd (show 10 = 5 from h) (by decide), fun _ => ha, fun h => hx (sk_rec.1.mp h), fun h => absurd h sk_rec.2, fun h _ => hy (sk_rec.1.mp h), fun h => absurd (show 10 = 6 ∨ 10 = 8 from h) (by decide), fun h => absurd h sk_rec.2, fun h => hz (sk_rec.1.mp h)⟩
end PmD2
def tcat : List (Nat × (Ty × Bool)) → List Int
  | [] => []
  | a :: r => tfl a.2.1 ++ tcat r
theorem tcat_app : ∀ (a r : List (Nat × (Ty × Bool))), tcat (a ++ r) = tcat a ++ tcat r
  | [], _ => rfl
  | a :: l, r => by
    show tfl a.2.1 ++ tcat (l ++ r) = (tfl a.2.1 ++ tcat l) ++ tcat r
    rw [tcat_app, List.append_assoc]
theorem tcat_is {r : List (Nat × (Ty × Bool))} (h : Srt 0 r) : tfl (lkT r 0) ++ (tfl (lkT r 1) ++ tfl (lkT r 2)) = tcat r := by
  rcases srt_cases h with rfl | ⟨a, rfl⟩ | ⟨a, rfl⟩ | ⟨a, rfl⟩ | ⟨a, b, rfl⟩ | ⟨a, b, rfl⟩ | ⟨a, b, rfl⟩ | ⟨a, b, c, rfl⟩ <;> simp [lkT, lk, tcat, tfl]
theorem lab_msk {r : List (Nat × (Ty × Bool))} (h : Srt 0 r) : lab ((msk r : Nat) : Int) = r.length := by
  rcases srt_cases h with rfl | ⟨a, rfl⟩ | ⟨a, rfl⟩ | ⟨a, rfl⟩ | ⟨a, b, rfl⟩ | ⟨a, b, rfl⟩ | ⟨a, b, rfl⟩ | ⟨a, b, c, rfl⟩ <;> simp only [msk, List.length_cons, List.length_nil] <;> decide
