/-! THE MODEL: nodes stay where their cells stay. -/
theorem mset_i' {M : pm_M} {p : Nat} {i v : Int} {q : Nat} {j : Int} (h : ¬ (q = p ∧ j = i)) : mset M p i v q j = M q j := by unfold mset; rw [if_neg h]
section PmD9
variable {lo nd sc : Nat} {N N' : pm_M}
theorem SCh.kpg (hn : ∀ (q : Nat) (i : Int), 59 ≤ q → q ≤ 63 → 0 ≤ i → i < nd → N' q i = N q i) (hs : ∀ (q : Nat) (i : Int), 64 ≤ q → q ≤ 67 → 0 ≤ i → i < sc → N' q i = N q i) {ch : List (Nat × Int × Nat)} {s : Int} (h : SCh lo N nd sc s ch) : SCh lo N' nd sc s ch := h.sameG (fun i i0 i1 => ⟨hn 61 i (by decide) (by decide) i0 i1, hn 63 i (by decide) (by decide) i0 i1⟩) (fun q q1 q2 i i0 i1 => hs q i q1 q2 i0 i1)
theorem NT.kpg (hn : ∀ (q : Nat) (i : Int), 59 ≤ q → q ≤ 63 → 0 ≤ i → i < nd → N' q i = N q i) (hs : ∀ (q : Nat) (i : Int), 64 ≤ q → q ≤ 67 → 0 ≤ i → i < sc → N' q i = N q i) {j : Nat} {c : Int} {b : Bool} (hj : j < nd) (h : NT lo N nd sc (j : Int) c b) : NT lo N' nd sc (j : Int) c b := by
  unfold NT at *
  rw [hn 59 _ (by decide) (by decide) (by omega) (by omega), hn 60 _ (by decide) (by decide) (by omega) (by omega), hn 62 _ (by decide) (by decide) (by omega) (by omega)]
  rcases h with t | t | ⟨t1, t2, ch, t3, t4⟩
  · exact Or.inl t
  · exact Or.inr (Or.inl t)
  · exact Or.inr (Or.inr ⟨t1, t2, ch, t3.kpg hn hs, t4⟩)
theorem NTl.kpg (hn : ∀ (q : Nat) (i : Int), 59 ≤ q → q ≤ 63 → 0 ≤ i → i < nd → N' q i = N q i) (hs : ∀ (q : Nat) (i : Int), 64 ≤ q → q ≤ 67 → 0 ≤ i → i < sc → N' q i = N q i) : ∀ {l : List Int} {j : Nat} {b : Bool}, j + l.length ≤ nd → NTl lo N nd sc j l b → NTl lo N' nd sc j l b
  | [], _, _, _, h => h
  | c :: l, j, b, hj, ⟨b1, b2, t1, t2, t3⟩ => by
    rw [List.length_cons] at hj
    exact ⟨b1, b2, t1.kpg hn hs (by omega), NTl.kpg hn hs (by omega) t2, t3⟩
theorem NX.kpg (hn : ∀ (q : Nat) (i : Int), 59 ≤ q → q ≤ 63 → 0 ≤ i → i < nd → N' q i = N q i) (hs : ∀ (q : Nat) (i : Int), 64 ≤ q → q ≤ 67 → 0 ≤ i → i < sc → N' q i = N q i) {j : Nat} {c : Int} {b : Bool} (hj : j < nd) (h : NX lo N nd sc (j : Int) c b) : NX lo N' nd sc (j : Int) c b := by
  have f59 := hn 59 (j : Int) (by decide) (by decide) (by omega) (by omega)
  have f60 := hn 60 (j : Int) (by decide) (by decide) (by omega) (by omega)
  have f62 := hn 62 (j : Int) (by decide) (by decide) (by omega) (by omega)
  rcases h with ⟨c0, t⟩ | ⟨t1, t2, t3, ch, t4, t5⟩ | t | t
  · exact Or.inl ⟨c0, t.kpg hn hs hj⟩
  · exact Or.inr (Or.inl ⟨t1, f59.trans t2, by rw [f60]; exact t3, ch, by rw [f62]; exact t4.kpg hn hs, by rw [f60]; exact t5⟩)
  · exact Or.inr (Or.inr (Or.inl ⟨t.1, f59.trans t.2.1, t.2.2⟩))
  · exact Or.inr (Or.inr (Or.inr ⟨t.1, f59.trans t.2.1, f60.trans t.2.2.1, t.2.2.2⟩))
theorem NXl.kpg (hn : ∀ (q : Nat) (i : Int), 59 ≤ q → q ≤ 63 → 0 ≤ i → i < nd → N' q i = N q i) (hs : ∀ (q : Nat) (i : Int), 64 ≤ q → q ≤ 67 → 0 ≤ i → i < sc → N' q i = N q i) : ∀ {l : List Int} {j : Nat} {b : Bool}, j + l.length ≤ nd → NXl lo N nd sc j l b → NXl lo N' nd sc j l b
  | [], _, _, _, h => h
  | c :: l, j, b, hj, ⟨b1, b2, t1, t2, t3⟩ => by
    rw [List.length_cons] at hj
    exact ⟨b1, b2, t1.kpg hn hs (by omega), NXl.kpg hn hs (by omega) t2, t3⟩
theorem MNd.kpg (hn : ∀ (q : Nat) (i : Int), 59 ≤ q → q ≤ 63 → 0 ≤ i → i < nd → N' q i = N q i) (hs : ∀ (q : Nat) (i : Int), 64 ≤ q → q ≤ 67 → 0 ≤ i → i < sc → N' q i = N q i) : ∀ {f : Nat} {t : Ty} {s : Int} {ch : List (Nat × Int × Nat)} {j : Nat}, MNd lo N nd sc f t s ch j → MNd lo N' nd sc f t s ch j
  | 0, _, _, _, _, h => h.elim
  | f + 1, t, s, ch, j, ⟨⟨a1, a2, a3, a40, a4⟩, a5, a6, a7, a8, a9, b1, b2, b3⟩ => by
    have f59 := hn 59 (j : Int) (by decide) (by decide) (by omega) (by omega)
    have f60 := hn 60 (j : Int) (by decide) (by decide) (by omega) (by omega)
    have f61 := hn 61 (j : Int) (by decide) (by decide) (by omega) (by omega)
    have f62 := hn 62 (j : Int) (by decide) (by decide) (by omega) (by omega)
    have f63 := hn 63 (j : Int) (by decide) (by decide) (by omega) (by omega)
    refine ⟨⟨a1, f59.trans a2, f61.trans a3, f62.trans a40, a4.kpg hn hs⟩, fun x => by rw [f60]; exact a5 x, fun x => by rw [f60]; exact a6 x, fun x => (a7 x).kpg hn hs, fun x => ⟨(a8 x).1.kpg hn hs (a8 x).2, (a8 x).2⟩, fun x y => (a9 x y).kpg hn hs, fun x => ?_, fun x => ⟨(b2 x).1.kpg hn hs (b2 x).2, (b2 x).2⟩, fun x => (b3 x).kpg hn hs⟩
    obtain ⟨nm, c0, c1, c2⟩ := b1 x
    have cr := c1.1
    exact ⟨nm, by rw [f63, hs 67 _ (by decide) (by decide) (by omega) (by omega), hs 64 _ (by decide) (by decide) (by omega) (by omega)]; exact c0, by rw [f63]; exact c1.kpg hn hs, by rw [f63]; exact c2.kpg hn hs⟩
theorem NXl.kp (h : ∀ (q : Nat) (i : Int), q ≠ 56 → N' q i = N q i) {l : List Int} {j : Nat} {b : Bool} (t : NXl lo N nd sc j l b) : NXl lo N' nd sc j l b := by
  have e : ∀ (l : List Int) (j : Nat) (b : Bool), NXl lo N nd sc j l b → NXl lo N' nd sc j l b := by
    intro l
    induction l with
    | nil => intro j b t; exact t
    | cons c l ih =>
      intro j b t
      obtain ⟨b1, b2, t1, t2, t3⟩ := t
      refine ⟨b1, b2, ?_, ih _ _ t2, t3⟩
      have f59 := h 59 (j : Int) (by decide)
      have f60 := h 60 (j : Int) (by decide)
      have f62 := h 62 (j : Int) (by decide)
      have hsc : ∀ {ch : List (Nat × Int × Nat)} {s : Int}, SCh lo N nd sc s ch → SCh lo N' nd sc s ch := fun x => x.kpg (fun q i q1 q2 _ _ => h q i (by omega)) (fun q i q1 q2 _ _ => h q i (by omega))
      unfold NX NT at *
      rw [f59, f60, f62]
      rcases t1 with ⟨c0, t | t | ⟨t1, t2, ch, t3, t4⟩⟩ | ⟨t1, t2, t3, ch, t4, t5⟩ | t | t
      · exact Or.inl ⟨c0, Or.inl t⟩
      · exact Or.inl ⟨c0, Or.inr (Or.inl t)⟩
      · exact Or.inl ⟨c0, Or.inr (Or.inr ⟨t1, t2, ch, hsc t3, t4⟩)⟩
      · exact Or.inr (Or.inl ⟨t1, t2, t3, ch, hsc t4, t5⟩)
      · exact Or.inr (Or.inr (Or.inl t))
      · exact Or.inr (Or.inr (Or.inr t))
  exact e l j b t
theorem MNd.kp (h : ∀ (q : Nat) (i : Int), q ≠ 56 → N' q i = N q i) {f : Nat} {t : Ty} {s : Int} {ch : List (Nat × Int × Nat)} {j : Nat} (x : MNd lo N nd sc f t s ch j) : MNd lo N' nd sc f t s ch j := x.kpg (fun q i q1 q2 _ _ => h q i (by omega)) (fun q i q1 q2 _ _ => h q i (by omega))
end PmD9
/-! THE MODEL: the kept term; readTerm. -/
def sh_ (s : Int) : Int := if s < 0 then -1 else s - 64
section PmD7
variable {N : pm_M} {a b : Nat}
theorem kT_n {p : Nat} {i : Int} (hp : 59 ≤ p ∧ p ≤ 63) (h0 : 0 ≤ i) (h1 : i < a) : kT N a b p i = kv N p i := by
  unfold kT
  rw [ks_o (by omega), kn_in (by omega)]
  have e : ∀ q j, 59 ≤ q → mset (mset N 56 4 (a : Int)) 56 29 (b : Int) q j = N q j := fun q j hq => by rw [mset_p _ _ _ _ (by omega), mset_p _ _ _ _ (by omega)]
  unfold kv
  rw [e 62 _ (by omega), e 63 _ (by omega), e p _ hp.1]
theorem kT_s {p : Nat} {i : Int} (hp : 64 ≤ p ∧ p ≤ 67) (h0 : 0 ≤ i) (h1 : i < b) : kT N a b p i = sv N p i := by
  unfold kT
  rw [ks_in (by omega)]
  have e : ∀ q j, 64 ≤ q → kn (mset (mset N 56 4 (a : Int)) 56 29 (b : Int)) a q j = N q j := fun q j hq => by rw [kn_o (by omega), mset_p _ _ _ _ (by omega), mset_p _ _ _ _ (by omega)]
  unfold sv
  rw [e 64 _ (by omega), e 67 _ (by omega), e p _ hp.1]
theorem kT_o {p : Nat} {i : Int} (h : ¬ (59 ≤ p ∧ p ≤ 67 ∧ 0 ≤ i ∧ i < 64)) (ha : a ≤ 60) (hb : b ≤ 60) (h4 : ¬ (p = 56 ∧ i = 4)) (h29 : ¬ (p = 56 ∧ i = 29)) : kT N a b p i = N p i := by
  unfold kT
  rw [ks_o (by omega), kn_o (by omega), mset_i' h29, mset_i' h4]
theorem kT_R32 (hM : ∀ p i, R32 (N p i)) (ha : a ≤ 60) (hb : b ≤ 60) : ∀ p i, R32 (kT N a b p i) := ks_R32 (kn_R32 (mset_R32 (mset_R32 hM ⟨by omega, by omega⟩) ⟨by omega, by omega⟩) _) _
theorem SCh.sh (ha : a ≤ 60) (hb : b ≤ 60) : ∀ {ch : List (Nat × Int × Nat)} {s : Int}, SCh 64 N (64 + a) (64 + b) s ch → SCh 0 (kT N a b) a b (sh_ s) ch
  | [], s, e => by
    have e : s = -1 := e
    subst e; rfl
  | x :: r, s, ⟨g1, g2, g3, g4, g5, g6, g7, g8⟩ => by
    obtain ⟨k, rfl⟩ : ∃ k : Nat, s = ((64 + k : Nat) : Int) := ⟨(s - 64).toNat, by omega⟩
    have es : sh_ ((64 + k : Nat) : Int) = (k : Int) := by unfold sh_; rw [if_neg (by omega)]; omega
    have e0 : (64 : Int) + (k : Int) = ((64 + k : Nat) : Int) := by omega
    obtain ⟨o, ho⟩ : ∃ o : Nat, N 67 ((64 + k : Nat) : Int) = ((64 + o : Nat) : Int) := ⟨(N 67 ((64 + k : Nat) : Int) - 64).toNat, by omega⟩
    have eo : (64 : Int) + (o : Int) = ((64 + o : Nat) : Int) := by omega
    have f64 : kT N a b 64 (k : Int) = sh_ (N 64 ((64 + k : Nat) : Int)) := by
      rw [kT_s (by omega) (by omega) (by omega)]
      unfold sv
      rw [e0]; rfl
    have f65 : kT N a b 65 (k : Int) = N 65 ((64 + k : Nat) : Int) := by rw [kT_s (by omega) (by omega) (by omega)]; unfold sv; rw [e0]; rfl
    have f66 : kT N a b 66 (k : Int) = N 66 ((64 + k : Nat) : Int) := by rw [kT_s (by omega) (by omega) (by omega)]; unfold sv; rw [e0]; rfl
    have f67 : kT N a b 67 (k : Int) = (o : Int) := by
      rw [kT_s (by omega) (by omega) (by omega)]
      unfold sv
      rw [e0, if_neg (by decide), if_pos rfl, ho, nrm_eq ⟨by omega, by omega⟩]
      omega
    have f63 : kT N a b 63 (o : Int) = (k : Int) := by
      rw [kT_n (by omega) (by omega) (by omega)]
      unfold kv
      rw [if_neg (by decide), if_pos rfl, eo, ← ho, g6.2, nrm_eq ⟨by omega, by omega⟩]
      omega
    have f61 : kT N a b 61 (o : Int) = N 61 ((64 + o : Nat) : Int) := by rw [kT_n (by omega) (by omega) (by omega)]; unfold kv; rw [eo]; rfl
    have r8 := g8.sh ha hb
    rw [es]
    refine ⟨⟨by omega, by omega⟩, f65.trans g2, f66.trans g3, g4, ?_, ⟨⟨by rw [f67]; omega, by rw [f67]; omega⟩, by rw [f67]; exact f63⟩, by rw [f67, f61, ← ho]; exact g7, by rw [f64]; exact r8⟩
    rw [f64]
    have q := r8.rng
    rcases g8.rng2 with e | e
    · rw [e]; show (-1 : Int) < _; omega
    · unfold sh_; rw [if_neg (by omega)]; omega
theorem NT.sh {j : Nat} {c : Int} {bb : Bool} (ha : a ≤ 60) (hb : b ≤ 60) (hj : j < a) (h : NT 64 N (64 + a) (64 + b) ((64 + j : Nat) : Int) c bb) : NT 0 (kT N a b) a b (j : Int) c bb := by
  have e0 : (64 : Int) + (j : Int) = ((64 + j : Nat) : Int) := by omega
  have f59 : kT N a b 59 (j : Int) = N 59 ((64 + j : Nat) : Int) := by rw [kT_n (by omega) (by omega) (by omega)]; unfold kv; rw [e0]; rfl
  have f60 : kT N a b 60 (j : Int) = N 60 ((64 + j : Nat) : Int) := by rw [kT_n (by omega) (by omega) (by omega)]; unfold kv; rw [e0]; rfl
  have f62 : kT N a b 62 (j : Int) = sh_ (N 62 ((64 + j : Nat) : Int)) := by rw [kT_n (by omega) (by omega) (by omega)]; unfold kv; rw [e0]; rfl
  unfold NT at *
  rw [f59, f60, f62]
  rcases h with t | t | ⟨t1, t2, ch, t3, t4⟩
  · exact Or.inl t
  · exact Or.inr (Or.inl t)
  · exact Or.inr (Or.inr ⟨t1, t2, ch, t3.sh ha hb, t4⟩)
theorem NTl.sh (ha : a ≤ 60) (hb : b ≤ 60) : ∀ {l : List Int} {j : Nat} {bb : Bool}, j + l.length ≤ a → NTl 64 N (64 + a) (64 + b) (64 + j) l bb → NTl 0 (kT N a b) a b j l bb
  | [], _, _, _, h => h
  | c :: l, j, bb, hj, ⟨b1, b2, t1, t2, t3⟩ => by
    rw [List.length_cons] at hj
    exact ⟨b1, b2, t1.sh ha hb (by omega), NTl.sh ha hb (by omega) t2, t3⟩
theorem NX.sh {j : Nat} {c : Int} {bb : Bool} (ha : a ≤ 60) (hb : b ≤ 60) (hj : j < a) (h : NX 64 N (64 + a) (64 + b) ((64 + j : Nat) : Int) c bb) : NX 0 (kT N a b) a b (j : Int) c bb := by
  have e0 : (64 : Int) + (j : Int) = ((64 + j : Nat) : Int) := by omega
  have f59 : kT N a b 59 (j : Int) = N 59 ((64 + j : Nat) : Int) := by rw [kT_n (by omega) (by omega) (by omega)]; unfold kv; rw [e0]; rfl
  have f60 : kT N a b 60 (j : Int) = N 60 ((64 + j : Nat) : Int) := by rw [kT_n (by omega) (by omega) (by omega)]; unfold kv; rw [e0]; rfl
  have f62 : kT N a b 62 (j : Int) = sh_ (N 62 ((64 + j : Nat) : Int)) := by rw [kT_n (by omega) (by omega) (by omega)]; unfold kv; rw [e0]; rfl
  rcases h with ⟨c0, t⟩ | ⟨t1, t2, t3, ch, t4, t5⟩ | t | t
  · exact Or.inl ⟨c0, t.sh ha hb hj⟩
  · exact Or.inr (Or.inl ⟨t1, f59.trans t2, by rw [f60]; exact t3, ch, by rw [f62]; exact t4.sh ha hb, by rw [f60]; exact t5⟩)
  · exact Or.inr (Or.inr (Or.inl ⟨t.1, f59.trans t.2.1, t.2.2⟩))
  · exact Or.inr (Or.inr (Or.inr ⟨t.1, f59.trans t.2.1, f60.trans t.2.2.1, t.2.2.2⟩))
theorem NXl.sh (ha : a ≤ 60) (hb : b ≤ 60) : ∀ {l : List Int} {j : Nat} {bb : Bool}, j + l.length ≤ a → NXl 64 N (64 + a) (64 + b) (64 + j) l bb → NXl 0 (kT N a b) a b j l bb
  | [], _, _, _, h => h
  | c :: l, j, bb, hj, ⟨b1, b2, t1, t2, t3⟩ => by
    rw [List.length_cons] at hj
    exact ⟨b1, b2, t1.sh ha hb (by omega), NXl.sh ha hb (by omega) t2, t3⟩
theorem MNd.sh (ha : a ≤ 60) (hb : b ≤ 60) : ∀ {f : Nat} {t : Ty} {s : Int} {ch : List (Nat × Int × Nat)} {j : Nat}, MNd 64 N (64 + a) (64 + b) f t s ch (64 + j) → MNd 0 (kT N a b) a b f t (sh_ s) ch j
  | 0, _, _, _, _, h => h.elim
  | f + 1, t, s, ch, j, ⟨⟨a1, a2, a3, a40, a4⟩, a5, a6, a7, a8, a9, b1, b2, b3⟩ => by
    have e0 : (64 : Int) + (j : Int) = ((64 + j : Nat) : Int) := by omega
    have f59 : kT N a b 59 (j : Int) = N 59 ((64 + j : Nat) : Int) := by rw [kT_n (by omega) (by omega) (by omega)]; unfold kv; rw [e0]; rfl
    have f60 : kT N a b 60 (j : Int) = N 60 ((64 + j : Nat) : Int) := by rw [kT_n (by omega) (by omega) (by omega)]; unfold kv; rw [e0]; rfl
    have f61 : kT N a b 61 (j : Int) = N 61 ((64 + j : Nat) : Int) := by rw [kT_n (by omega) (by omega) (by omega)]; unfold kv; rw [e0]; rfl
    have f62 : kT N a b 62 (j : Int) = sh_ (N 62 ((64 + j : Nat) : Int)) := by rw [kT_n (by omega) (by omega) (by omega)]; unfold kv; rw [e0]; rfl
    refine ⟨⟨by omega, f59.trans a2, f61.trans a3, by rw [f62, a40], a4.sh ha hb⟩, fun x => by rw [f60]; exact a5 x, fun x => by rw [f60]; exact a6 x, fun x => MNd.sh ha hb (a7 x), fun x => ⟨(a8 x).1.sh (j := j + 1) ha hb (by have := (a8 x).2; omega), by have := (a8 x).2; omega⟩, fun x y => MNd.sh (j := j + 1 + (tfl (nX t)).length) ha hb (by have := a9 x y; rw [show 64 + j + 1 + (tfl (nX t)).length = 64 + (j + 1 + (tfl (nX t)).length) by omega] at this; exact this), fun x => ?_, fun x => ⟨(show NTl 64 N (64 + a) (64 + b) (64 + (j + 1 + (tfl (nX t)).length)) (flat (nY t)) true from by have := (b2 x).1; rw [show 64 + j + 1 + (tfl (nX t)).length = 64 + (j + 1 + (tfl (nX t)).length) by omega] at this; exact this).sh ha hb (by have := (b2 x).2; omega), by have := (b2 x).2; omega⟩, fun x => MNd.sh (j := j + 1 + (tfl (nX t)).length + (tfl (nY t)).length) ha hb (by have := b3 x; rw [show 64 + j + 1 + (tfl (nX t)).length + (tfl (nY t)).length = 64 + (j + 1 + (tfl (nX t)).length + (tfl (nY t)).length) by omega] at this; exact this)⟩
    obtain ⟨nm, c0, c1, c2⟩ := b1 x
    have cr := c1.1
    obtain ⟨k, hk⟩ : ∃ k : Nat, N 63 ((64 + j : Nat) : Int) = ((64 + k : Nat) : Int) := ⟨(N 63 ((64 + j : Nat) : Int) - 64).toNat, by omega⟩
    rw [hk] at c0 c1 c2 cr
    have es : sh_ ((64 + k : Nat) : Int) = (k : Int) := by unfold sh_; rw [if_neg (by omega)]; omega
    have f63 : kT N a b 63 (j : Int) = (k : Int) := by
      rw [kT_n (by omega) (by omega) (by omega)]
      unfold kv
      rw [e0, if_neg (by decide), if_pos rfl, hk, nrm_eq ⟨by omega, by omega⟩]
      omega
    have ek : (64 : Int) + (k : Int) = ((64 + k : Nat) : Int) := by omega
    rw [show 64 + j + 1 + (tfl (nX t)).length = 64 + (j + 1 + (tfl (nX t)).length) by omega] at c2
    have c2' := MNd.sh ha hb c2
    rw [es] at c2'
    refine ⟨nm, ?_, ?_, by rw [f63]; exact c2'⟩
    · rw [f63, kT_s (by omega) (by omega) (by omega), kT_s (by omega) (by omega) (by omega)]
      unfold sv
      refine ⟨?_, ?_⟩
      · rw [if_neg (by decide), if_pos rfl, ek, c0.1, nrm_eq ⟨by omega, by omega⟩]
        omega
      · rw [if_pos rfl, ek, c0.2]; rfl
    · have q := c1.sh ha hb
      rw [es] at q
      rw [f63]; exact q
/-- every scope of the kept term -/
def SCK (N : pm_M) (a b : Nat) : Prop := ∀ s : Nat, s < b → (N 64 (s : Int) = -1 ∨ 0 ≤ N 64 (s : Int)) ∧ N 64 (s : Int) < s ∧ (0 ≤ N 67 (s : Int) ∧ N 67 (s : Int) < a) ∧ N 63 (N 67 (s : Int)) = s
theorem SCW.sh (ha : a ≤ 60) (hb : b ≤ 60) (h : SCW N (64 + a) (64 + b)) : SCK (kT N a b) a b := by
  intro k hk
  obtain ⟨g1, g2, g3, g4⟩ := h (64 + k) (by omega) (by omega)
  have e0 : (64 : Int) + (k : Int) = ((64 + k : Nat) : Int) := by omega
  obtain ⟨o, ho⟩ : ∃ o : Nat, N 67 ((64 + k : Nat) : Int) = ((64 + o : Nat) : Int) := ⟨(N 67 ((64 + k : Nat) : Int) - 64).toNat, by omega⟩
  have eo : (64 : Int) + (o : Int) = ((64 + o : Nat) : Int) := by omega
  have f64 : kT N a b 64 (k : Int) = sh_ (N 64 ((64 + k : Nat) : Int)) := by rw [kT_s (by omega) (by omega) (by omega)]; unfold sv; rw [e0]; rfl
  have f67 : kT N a b 67 (k : Int) = (o : Int) := by
    rw [kT_s (by omega) (by omega) (by omega)]
    unfold sv
    rw [e0, if_neg (by decide), if_pos rfl, ho, nrm_eq ⟨by omega, by omega⟩]
    omega
  have f63 : kT N a b 63 (o : Int) = (k : Int) := by
    rw [kT_n (by omega) (by omega) (by omega)]
    unfold kv
    rw [if_neg (by decide), if_pos rfl, eo, ← ho, g4, nrm_eq ⟨by omega, by omega⟩]
    omega
  rw [f64, f67, f63]
  refine ⟨?_, ?_, ⟨by omega, by omega⟩, rfl⟩
  · unfold sh_
    by_cases c : N 64 ((64 + k : Nat) : Int) < 0
    · rw [if_pos c]; exact Or.inl rfl
    · rw [if_neg c]; right; omega
  · unfold sh_
    by_cases c : N 64 ((64 + k : Nat) : Int) < 0
    · rw [if_pos c]; omega
    · rw [if_neg c]; omega
end PmD7
/-- what readTerm answers, and the term -/
def rdM (tx : Nat → Int) (ln : Nat) : Int × Option Ty := match pM tx ln 23 [] 0 with
  | (q, none) => ((q : Int), none)
  | (q, some a) => if q < ln then ((q : Int), none) else if a.2 = true then (-1, some a.1) else (-2, none)
/-- the model's term -/
def TMm (N : pm_M) (a b : Nat) (t : Ty) : Prop := N 56 4 = (a : Int) ∧ N 56 29 = (b : Int) ∧ a = (tfl t).length ∧ 1 ≤ a ∧ a ≤ 60 ∧ b ≤ 60 ∧ NXl 0 N a b 0 (tfl t) true ∧ prx 1 (tfl t) = true ∧ MNd 0 N a b 24 t (-1) [] 0 ∧ SCK N a b
def WRt2 (p : Nat) (i : Int) : Prop := (p = 56 ∧ (i = 0 ∨ i = 5 ∨ i = 11 ∨ i = 16)) ∨ (59 ≤ p ∧ p ≤ 67 ∧ 64 ≤ i) ∨ (68 ≤ p ∧ p ≤ 71)
def WRt3 (p : Nat) (i : Int) : Prop := WRt2 p i ∨ (p = 56 ∧ (i = 4 ∨ i = 29 ∨ i = 43)) ∨ (59 ≤ p ∧ p ≤ 67 ∧ 0 ≤ i)
section PmD8
variable {tx : Nat → Int} {ln : Nat} {d : Nat} {Q : Option Value → pm_S → Prop} {N : pm_M} {Rf : Nat → Nat → Nat} {K L : Nat → Nat} {n s0 : Nat}
theorem m_readTerm (hG : pm_G Rf K L n) (hM : ∀ p i, R32 (N p i)) (ht : MT N tx ln) (h0 : (rdM tx ln).2 = none → ∀ N' : pm_M, (∀ p i, ¬ WRt2 p i → N' p i = N p i) → N' 56 0 = 0 → (∀ p i, R32 (N' p i)) → Q (some (.int (zI (rdM tx ln).1))) (zM N', Rf, K, L, n, s0)) (h1 : ∀ t, rdM tx ln = (-1, some t) → ∀ (N' : pm_M) (a b : Nat), (∀ p i, ¬ WRt3 p i → N' p i = N p i) → N' 56 0 = 0 → N' 56 43 = 0 → TMm N' a b t → (∀ p i, R32 (N' p i)) → Q (some (.int (zI (-1)))) (zM N', Rf, K, L, n, s0)) : pm_Wc (d + 8) 175 [.ref 56] (zM N, Rf, K, L, n, s0) Q := by
  refine wc_in (ls0 := [some (.ref 56), none]) (by decide) (Nat.le_of_ble_eq_true rfl) rfl rfl ?_
  refine wp_aload_n d175_0 rfl ?_
  refine wz_sipush d175_1 (by decide) ?_
  refine wp_virt (as := [.int (zI 201)]) (rest := []) d175_4 rfl rfl rfl (hG.o (by decide) rfl) rfl rfl (Nat.le_of_ble_eq_true rfl) ?_
  refine wc_deep (show d + 3 + 3 ≤ d + 7 by omega) ?_
  refine m_readS (d := d + 3) hG hM ht ⟨by omega, by omega⟩ (fun N1 fr1 ms1 => ?_)
  -- behind the reading
  have back : ∀ (v : Int) (N2 : pm_M), MFr 64 64 0 N N2 → (∀ p i, R32 (N2 p i)) → R32 v → (0 ≤ v → (rdM tx ln) = (v, none)) → (v < 0 → pm_Wp none (d + 7) 175 19 [some (.ref 56), some (.int (zI v))] [] (zM (mset N2 56 0 0), Rf, K, L, n, s0) Q) → pm_Wp none (d + 7) 175 7 [some (.ref 56), none] [.int (zI v)] (zM N2, Rf, K, L, n, s0) Q := by
    intro v N2 fr2 r2 rv hv hn
    refine wp_istore_n d175_7 (Nat.le_of_ble_eq_true rfl) rfl ?_
    refine wp_aload_n d175_8 rfl ?_
    refine wz_iconst d175_9 ?_
    refine wz_putI (i := 0) d175_10 rfl (hG.o (by decide) rfl) rfl (by decide) rfl ?_
    refine wp_iload_n d175_13 rfl ?_
    refine wz_if_lt (t := 19) d175_14 (by decide) rv (fun hb => ?_) (fun hb => ?_)
    · skip
      exact hn hb
    · skip
      refine wp_iload_n d175_17 rfl ?_
      have e1 := hv (by omega)
      rw [e1] at h0
      refine wp_ret d175_18 rfl (h0 rfl _ (fun p i hw => ?_) (mset_s _ _ _ _) (mset_R32 r2 ⟨by omega, by omega⟩))
      unfold mset
      rw [if_neg (fun e => hw (Or.inl ⟨e.1, Or.inl e.2⟩))]
      exact fr2 p i (fun x => hw (by unfold WMr at x; unfold WRt2; omega))
  have S1 : SCh 64 N1 64 64 (-1) [] := rfl
  refine m_terms tx ln (d + 1) 23 201 (-1) (-1) [] 0 64 64 [] N1 Rf K L n s0 _ hG ms1 S1 (fun s h1 h2 => absurd h2 (by omega)) (by decide) (by decide) (fun q N2 hq fr2 r2 => ?_) (fun q a N2 sc2 b2 hq fr2 ms2 hsc sw2 tq2 mn2 => ?_)
  · have q60 := (pM_fw (tx := tx) (ln := ln) 23 [] 0 (Nat.zero_le _)).2.1
    rw [hq] at q60
    have q60 : q ≤ ln := q60
    have l60 := ht.2.1
    exact back (q : Int) N2 (fr1.trans fr2) r2 ⟨by omega, by omega⟩ (fun _ => by unfold rdM; rw [hq]) (fun hv => by omega)
  have q60 := ms2.2.2.1
  have l60 := ht.2.1
  refine l_done (d := d + 4) hG ms2 (fun hlt => back (q : Int) N2 (fr1.trans fr2) ms2.1 ⟨by omega, by omega⟩ (fun _ => by unfold rdM; rw [hq]; exact if_pos hlt) (fun hv => by omega)) (fun heq => back (-1) N2 (fr1.trans fr2) ms2.1 ⟨by omega, by omega⟩ (fun hv => by omega) (fun _ => ?_))
  have erd : rdM tx ln = if a.2 = true then (-1, some a.1) else (-2, none) := by
    unfold rdM
    rw [hq]
    exact if_neg (by omega)
  have fr02 := fr1.trans fr2
  have e5 := ms2.2.2.2.1
  have e11 := ms2.2.2.2.2.1
  have ndb := ms2.2.2.2.2.2.2.2.2.1
  have sc64 := ms2.2.2.2.2.2.2.2.2.2.1
  have scb := ms2.2.2.2.2.2.2.2.2.2.2
  have r3 : ∀ p i, R32 (mset N2 56 0 0 p i) := mset_R32 ms2.1 ⟨by omega, by omega⟩
  have lb0 : LBo 0 N2 (mset N2 56 0 0) := fun q i _ _ h56 => by unfold mset; rw [if_neg (fun e => h56 e.1)]
  have nx3 : NXl 64 (mset N2 56 0 0) (64 + (tfl a.1).length) sc2 64 (tfl a.1) b2 := tq2.1.lb lb0 (by decide)
  have n3 : ∀ p i, ¬ WRt2 p i → mset N2 56 0 0 p i = N p i := fun p i hw => by
    unfold mset
    rw [if_neg (fun e => hw (Or.inl ⟨e.1, Or.inl e.2⟩))]
    exact fr02 p i (fun x => hw (by unfold WMr at x; unfold WRt2; omega))
  refine wp_aload_n d175_19 rfl ?_
  refine wp_virt (as := []) (rest := []) d175_20 rfl rfl rfl (hG.o (by decide) rfl) rfl rfl (Nat.le_of_ble_eq_true rfl) ?_
  refine wc_deep (show d + 4 ≤ d + 7 by omega) ?_
  refine m_sound (sc := sc2) (nd := 64 + (tfl a.1).length) (l := tfl a.1) hG r3 (by rw [mset_i _ _ _ _ (by decide)]; exact e5) (by omega) (by omega) nx3 tq2.2.1 (fun hs => ?_) (fun hs => ?_)
  rotate_left
  · skip
    rw [if_neg (fun x => hs (tq2.2.2.1.mpr x))] at erd
    rw [erd] at h0
    refine wz_if_ne (t := 29) d175_23 (by decide) ⟨by omega, by omega⟩ (fun hb => absurd (by decide) hb) (fun _ => ?_)
    refine wz_bipush d175_26 (by decide) ?_
    exact wp_ret d175_28 rfl (h0 rfl _ n3 (mset_s _ _ _ _) r3)
  have hg := tq2.2.2.1.mp hs
  rw [if_pos hg] at erd
  have hb2 : b2 = true := hs.1
  rw [hb2] at nx3
  obtain ⟨b, rfl⟩ : ∃ b : Nat, sc2 = 64 + b := ⟨sc2 - 64, by omega⟩
  refine wz_if_ne (t := 29) d175_23 (by decide) ⟨by omega, by omega⟩ (fun _ => ?_) (fun hb => absurd hb (by decide))
  refine wp_aload_n d175_29 rfl ?_
  refine wp_virt (as := []) (rest := []) d175_30 rfl rfl rfl (hG.o (by decide) rfl) rfl rfl (Nat.le_of_ble_eq_true rfl) ?_
  refine wc_deep (show 0 + 1 ≤ d + 7 by omega) ?_
  refine m_keepTerm (a := (tfl a.1).length) (b := b) hG r3 (by rw [mset_i _ _ _ _ (by decide)]; exact e5) (by rw [mset_i _ _ _ _ (by decide)]; exact e11) (by omega) (by omega) ?_
  refine wp_aload_n d175_33 rfl ?_
  refine wz_iconst d175_34 ?_
  refine wz_putI (i := 43) d175_35 rfl (hG.o (by decide) rfl) (by decide) (by decide) rfl ?_
  refine wz_iconst d175_38 ?_
  have mn3 : MNd 64 (mset N2 56 0 0) (64 + (tfl a.1).length) (64 + b) 24 a.1 (-1) [] (64 + 0) := (mn2 hg).lb lb0 (by decide)
  have lpos : 1 ≤ (tfl a.1).length := by have := mn3.1.1; omega
  have ha60 : (tfl a.1).length ≤ 60 := by omega
  have hb60 : b ≤ 60 := by omega
  have fM : ∀ (q : Nat) (i : Int), q ≠ 56 → mset (kT (mset N2 56 0 0) (tfl a.1).length b) 56 43 0 q i = kT (mset N2 56 0 0) (tfl a.1).length b q i := fun q i hq => mset_p _ _ _ _ hq
  have lb1 : LBo 0 (kT (mset N2 56 0 0) (tfl a.1).length b) (mset (kT (mset N2 56 0 0) (tfl a.1).length b) 56 43 0) := fun q i _ _ h56 => fM q i h56
  refine wp_ret d175_39 rfl (h1 a.1 erd _ (tfl a.1).length b (fun p i hw => ?_) ?_ (mset_s _ _ _ _) ⟨?_, ?_, rfl, lpos, ha60, hb60, ?_, tq2.2.2.2, ?_, ?_⟩ (mset_R32 (kT_R32 r3 ha60 hb60) ⟨by omega, by omega⟩))
  · rw [mset_i' (fun e => hw (by unfold WRt3; omega)), kT_o (fun e => hw (by unfold WRt3; omega)) ha60 hb60 (fun e => hw (by unfold WRt3; omega)) (fun e => hw (by unfold WRt3; omega))]
    exact n3 p i (fun x => hw (Or.inl x))
  · rw [mset_i _ _ _ _ (by decide), kT_o (by omega) ha60 hb60 (by omega) (by omega), mset_s]
  · rw [mset_i _ _ _ _ (by decide)]
    unfold kT
    rw [ks_o (by omega), kn_o (by omega), mset_i _ _ _ _ (by decide), mset_s]
  · rw [mset_i _ _ _ _ (by decide)]
    unfold kT
    rw [ks_o (by omega), kn_o (by omega), mset_s]
  · exact (NXl.sh (j := 0) ha60 hb60 (by omega) nx3).kp fM
  · exact (MNd.sh ha60 hb60 mn3).kp fM
  · intro s hs
    rw [fM 64 _ (by decide), fM 67 _ (by decide), fM 63 _ (by decide)]
    exact ((sw2.lb lb0).sh ha60 hb60) s hs
end PmD8
