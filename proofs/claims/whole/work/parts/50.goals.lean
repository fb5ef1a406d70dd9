/-! GOALS: what the model's tables say while two types are joined or met. -/
def gv (z : Gz) : Rs := cmv z.1 z.2.1 z.2.2.1 z.2.2.2
def LZ (z : Gz) : Prop := z.1 = 2 ∨ (z.2.1.length + gm z ≤ 1990 ∧ 2 * tht z.2 + 3 ≤ 300)
/-- the goal of that number -/
def GE (N : pm_M) (u x g : Int) (z : Gz) : Prop := ∃ a p b q c : Int, N 81 (7 * g) = (z.1 : Int) ∧ N 81 (7 * g + 1) = a ∧ N 81 (7 * g + 2) = p ∧ N 81 (7 * g + 3) = b ∧ N 81 (7 * g + 4) = q ∧ N 81 (7 * g + 5) = c ∧ N 81 (7 * g + 6) = (z.2.1.length : Int) ∧ TH N u x a p b q c (z.2.1.length : Int) z.2 ∧ N 84 g = 0 ∧ z.1 ≤ 2
theorem GE.ok {N : pm_M} {u x g : Int} {z : Gz} (h : GE N u x g z) : tok z.2 := by
  obtain ⟨a, p, b, q, c, -, -, -, -, -, -, -, t, -, -⟩ := h
  exact t.ok
/-- what part may write -/
def WR (u x g G : Int) (p : Nat) (i : Int) : Prop := (p = 56 ∧ (i = 22 ∨ i = 24 ∨ i = 34 ∨ i = 36)) ∨ (p = 73 ∧ 17 * u ≤ i) ∨ ((p = 74 ∨ p = 75 ∨ p = 76) ∧ x ≤ i) ∨ p = 80 ∨ (p = 81 ∧ ((7 * g ≤ i ∧ i < 7 * g + 7) ∨ 7 * G ≤ i)) ∨ ((p = 82 ∨ p = 83 ∨ p = 84 ∨ p = 85 ∨ p = 86) ∧ (i = g ∨ G ≤ i))
def PF (N N' : pm_M) (u x g G : Int) : Prop := ∀ (p : Nat) (i : Int), ¬ WR u x g G p i → N' p i = N p i
theorem PF.refl (N : pm_M) (u x g G : Int) : PF N N u x g G := fun _ _ _ => rfl
theorem PF.trans {N N1 N' : pm_M} {u x g G : Int} (h : PF N N1 u x g G) (h' : PF N1 N' u x g G) : PF N N' u x g G := fun p i w => by rw [h' p i w, h p i w]
theorem PF.set {N N' : pm_M} {u x g G : Int} {p : Nat} {i v : Int} (h : PF N N' u x g G) (w : WR u x g G p i) : PF N (mset N' p i v) u x g G := by
  intro q j hq
  unfold mset
  rw [if_neg (fun e => hq (by rw [e.1, e.2]; exact w))]
  exact h q j hq
theorem PF.put {N N' : pm_M} {u x g G : Int} {p : Nat} {b : Int} {l : List Int} (h : PF N N' u x g G) (w : ∀ j : Int, b ≤ j → WR u x g G p j) : PF N (mput N' p b l) u x g G := by
  intro q j hq
  unfold mput
  rw [if_neg (fun e => hq (by rw [e.1]; exact w j e.2.1))]
  exact h q j hq
theorem PF.aim {N N' : pm_M} {u x g G G' w a p b q c D : Int} (h : PF N N' u x g G) (hG : G ≤ G') : PF N (aimM N' G' w a p b q c D) u x g G := by
  unfold aimM
  repeat (refine PF.set ?_ (by unfold WR; omega))
  exact h
theorem PF.aimL : ∀ (l : List Gl) {N N' : pm_M} {u x g G G' : Int}, PF N N' u x g G → G ≤ G' → PF N (aimL N' G' l) u x g G
  | [], _, _, _, _, _, _, _, h, _ => h
  | z :: l, N, N', u, x, g, G, G', h, hG => PF.aimL l (N' := aimG N' G' z) (h.aim hG) (by omega)
theorem UK.pf {N N' : pm_M} {u x : Int} (g G : Int) (h : UK N N' u x) : PF N N' u x g G := by
  intro p i w
  unfold WR at w
  exact h.1 p i (fun e => by omega) (fun e => by omega) (fun e => by omega) (fun e => by omega)
theorem UK.at {N N' : pm_M} {u x : Int} (h : UK N N' u x) (p : Nat) (i : Int) (hp : p = 81 ∨ p = 82 ∨ p = 83 ∨ p = 84 ∨ p = 85 ∨ p = 86) : N' p i = N p i :=
  h.1 p i (fun e => by omega) (fun e => by omega) (fun e => by omega) (fun e => by omega)
theorem TH.keep {N N' : pm_M} {u x u' x' a p b q c D : Int} {z : Tsk} (e : ∀ (r : Nat) (i : Int), (r = 73 ∧ i < 17 * u) ∨ ((r = 74 ∨ r = 75 ∨ r = 76) ∧ i < x) → N' r i = N r i) (hu : u ≤ u') (hx : x ≤ x') (t : TH N u x a p b q c D z) : TH N' u' x' a p b q c D z := by
  have t' : TH (fun r i => if r = 73 ∨ r = 74 ∨ r = 75 ∨ r = 76 then N' r i else N r i) u' x' a p b q c D z := by
    refine TH.mono (k := 0) t ?_ hu hx
    intro r i h1 h2 h3 h4
    show (if r = 73 ∨ r = 74 ∨ r = 75 ∨ r = 76 then N' r i else N r i) = N r i
    by_cases h : r = 73 ∨ r = 74 ∨ r = 75 ∨ r = 76
    · rw [if_pos h]
      apply e
      rcases h with h | h | h | h
      · exact Or.inl ⟨h, h2 h⟩
      · exact Or.inr ⟨Or.inl h, h3 (Or.inl h)⟩
      · exact Or.inr ⟨Or.inr (Or.inl h), h3 (Or.inr (Or.inl h))⟩
      · exact Or.inr ⟨Or.inr (Or.inr h), h3 (Or.inr (Or.inr h))⟩
    · rw [if_neg h]
  refine TH.same (fun r i h => ?_) t'
  show N' r i = (if r = 73 ∨ r = 74 ∨ r = 75 ∨ r = 76 then N' r i else N r i)
  rw [if_pos h]
theorem PF.th {N N' : pm_M} {u x u' x' g G a p b q c D : Int} {z : Tsk} (h : PF N N' u x g G) (hu : u ≤ u') (hx : x ≤ x') (t : TH N u x a p b q c D z) : TH N' u' x' a p b q c D z :=
  t.keep (fun r i hr => h r i (by unfold WR; omega)) hu hx
theorem GE.keep {N N' : pm_M} {u x u' x' g G j : Int} {z : Gz} (h : PF N N' u x g G) (hj : j ≠ g) (hG : j < G) (hu : u ≤ u') (hx : x ≤ x') (e : GE N u x j z) : GE N' u' x' j z := by
  obtain ⟨a, p, b, q, c, e0, e1, e2, e3, e4, e5, e6, t, e8, e9⟩ := e
  refine ⟨a, p, b, q, c, ?_, ?_, ?_, ?_, ?_, ?_, ?_, h.th hu hx t, ?_, e9⟩
  · rw [h _ _ (by unfold WR; omega)]; exact e0
  · rw [h _ _ (by unfold WR; omega)]; exact e1
  · rw [h _ _ (by unfold WR; omega)]; exact e2
  · rw [h _ _ (by unfold WR; omega)]; exact e3
  · rw [h _ _ (by unfold WR; omega)]; exact e4
  · rw [h _ _ (by unfold WR; omega)]; exact e5
  · rw [h _ _ (by unfold WR; omega)]; exact e6
  · rw [h _ _ (by unfold WR; omega)]; exact e8
theorem RS.keep {N N' : pm_M} {u u' g : Int} (e4 : N' 84 g = N 84 g) (e5 : N' 85 g = N 85 g) (e6 : N' 86 g = N 86 g) (er : ∀ i : Int, i < 17 * u → N' 73 i = N 73 i) (hu : u ≤ u') : ∀ {r : Rs}, RS N u g r → RS N' u' g r
  | none, h => by show N' 84 g = 0; rw [e4]; exact h
  | some none, h => by show N' 84 g = 2; rw [e4]; exact h
  | some (some R), h => by
    obtain ⟨h1, h2, h3, h4, h5, h6, h7⟩ := h
    refine ⟨by rw [e4]; exact h1, by rw [e5]; exact h2, by rw [e5]; omega, by rw [e6]; exact h4, by rw [e6]; exact h5, ?_, h7⟩
    rw [e5, e6]
    exact Row.same (fun i _ _ => er _ (by omega)) h6
theorem PF.rs {N N' : pm_M} {u x u' g G j : Int} {r : Rs} (h : PF N N' u x g G) (hj : j ≠ g) (hG : j < G) (hu : u ≤ u') (e : RS N u j r) : RS N' u' j r :=
  RS.keep (h _ _ (by unfold WR; omega)) (h _ _ (by unfold WR; omega)) (h _ _ (by unfold WR; omega)) (fun i hi => h _ _ (by unfold WR; omega)) hu e
def CH (N : pm_M) (u x : Int) : Int → List Gz → Prop
  | _, [] => True
  | f, z :: zs => (GE N u x f z ∧ N 82 f = -1) ∧ CH N u x (f + 1) zs
/-- these goals as numbers are those goals -/
def GR (N : pm_M) (u x : Int) : List Gl → List Gz → Prop
  | [], [] => True
  | y :: gs, z :: zs => (y.1 = (z.1 : Int) ∧ z.1 ≤ 2 ∧ y.2.2.2.2.2.2 = (z.2.1.length : Int) ∧ TH N u x y.2.1 y.2.2.1 y.2.2.2.1 y.2.2.2.2.1 y.2.2.2.2.2.1 (z.2.1.length : Int) z.2) ∧ GR N u x gs zs
  | [], _ :: _ => False
  | _ :: _, [] => False
theorem GR.same {N N' : pm_M} {u x : Int} (e : ∀ (r : Nat) (i : Int), r = 73 ∨ r = 74 ∨ r = 75 ∨ r = 76 → N' r i = N r i) : ∀ {gs : List Gl} {zs : List Gz}, GR N u x gs zs → GR N' u x gs zs
  | [], [], _ => trivial
  | _ :: _, _ :: _, h => ⟨⟨h.1.1, h.1.2.1, h.1.2.2.1, TH.same e h.1.2.2.2⟩, GR.same e h.2⟩
  | [], _ :: _, h => h
  | _ :: _, [], h => h
theorem GR.app {N : pm_M} {u x : Int} : ∀ {a : List Gl} {b : List Gz} {a' : List Gl} {b' : List Gz}, GR N u x a b → GR N u x a' b' → GR N u x (a ++ a') (b ++ b')
  | [], [], _, _, _, h => h
  | _ :: _, _ :: _, _, _, h, h' => ⟨h.1, GR.app h.2 h'⟩
  | [], _ :: _, _, _, h, _ => h.elim
  | _ :: _, [], _, _, h, _ => h.elim
theorem GR.len {N : pm_M} {u x : Int} : ∀ {a : List Gl} {b : List Gz}, GR N u x a b → a.length = b.length
  | [], [], _ => rfl
  | _ :: _, _ :: _, h => by rw [List.length_cons, List.length_cons, GR.len h.2]
  | [], _ :: _, h => h.elim
  | _ :: _, [], h => h.elim
theorem GR.glr {N : pm_M} {u x : Int} (u1 : u ≤ 1100) (x0 : 0 ≤ x) (x1 : x ≤ 900) : ∀ {a : List Gl} {b : List Gz}, GR N u x a b → (∀ z ∈ b, z.2.1.length ≤ 3000) → ∀ y ∈ a, glr y
  | [], [], _, _, y, hy => by cases hy
  | y' :: a, z :: b, h, hl, y, hy => by
    have hz := hl z (List.mem_cons_self ..)
    rcases List.mem_cons.mp hy with e | e
    · subst e
      obtain ⟨h0, h1, h2, t⟩ := h.1
      have hcr := t.hc.rng x0 x1
      have t1 := t.a0; have t2 := t.a1; have t3 := t.p0; have t4 := t.p1; have t5 := t.b0; have t6 := t.b1; have t7 := t.q0; have t8 := t.q1
      refine ⟨?_, ⟨by omega, by omega⟩, ⟨by omega, by omega⟩, ⟨by omega, by omega⟩, ⟨by omega, by omega⟩, ⟨by omega, by omega⟩, ?_⟩
      · rw [h0]; exact ⟨by omega, by omega⟩
      · rw [h2]; exact ⟨by omega, by omega⟩
    · exact GR.glr u1 x0 x1 h.2 (fun z' hz' => hl z' (List.mem_cons_of_mem _ hz')) y e
  | [], _ :: _, h, _, _, _ => h.elim
  | _ :: _, [], h, _, _, _ => h.elim
theorem aimM_0 (N : pm_M) (G w a p b q c D : Int) : aimM N G w a p b q c D 81 (7 * G) = w := by
  unfold aimM
  rw [mset_p _ _ _ _ (by decide), mset_p _ _ _ _ (by decide), mset_p _ _ _ _ (by decide), mset_i _ _ _ _ (by omega), mset_i _ _ _ _ (by omega), mset_i _ _ _ _ (by omega), mset_i _ _ _ _ (by omega), mset_i _ _ _ _ (by omega), mset_i _ _ _ _ (by omega), mset_s]
theorem aimM_1 (N : pm_M) (G w a p b q c D : Int) : aimM N G w a p b q c D 81 (7 * G + 1) = a := by
  unfold aimM
  rw [mset_p _ _ _ _ (by decide), mset_p _ _ _ _ (by decide), mset_p _ _ _ _ (by decide), mset_i _ _ _ _ (by omega), mset_i _ _ _ _ (by omega), mset_i _ _ _ _ (by omega), mset_i _ _ _ _ (by omega), mset_i _ _ _ _ (by omega), mset_s]
theorem aimM_2 (N : pm_M) (G w a p b q c D : Int) : aimM N G w a p b q c D 81 (7 * G + 2) = p := by
  unfold aimM
  rw [mset_p _ _ _ _ (by decide), mset_p _ _ _ _ (by decide), mset_p _ _ _ _ (by decide), mset_i _ _ _ _ (by omega), mset_i _ _ _ _ (by omega), mset_i _ _ _ _ (by omega), mset_i _ _ _ _ (by omega), mset_s]
theorem aimM_3 (N : pm_M) (G w a p b q c D : Int) : aimM N G w a p b q c D 81 (7 * G + 3) = b := by
  unfold aimM
  rw [mset_p _ _ _ _ (by decide), mset_p _ _ _ _ (by decide), mset_p _ _ _ _ (by decide), mset_i _ _ _ _ (by omega), mset_i _ _ _ _ (by omega), mset_i _ _ _ _ (by omega), mset_s]
theorem aimM_4 (N : pm_M) (G w a p b q c D : Int) : aimM N G w a p b q c D 81 (7 * G + 4) = q := by
  unfold aimM
  rw [mset_p _ _ _ _ (by decide), mset_p _ _ _ _ (by decide), mset_p _ _ _ _ (by decide), mset_i _ _ _ _ (by omega), mset_i _ _ _ _ (by omega), mset_s]
theorem aimM_5 (N : pm_M) (G w a p b q c D : Int) : aimM N G w a p b q c D 81 (7 * G + 5) = c := by
  unfold aimM
  rw [mset_p _ _ _ _ (by decide), mset_p _ _ _ _ (by decide), mset_p _ _ _ _ (by decide), mset_i _ _ _ _ (by omega), mset_s]
theorem aimM_6 (N : pm_M) (G w a p b q c D : Int) : aimM N G w a p b q c D 81 (7 * G + 6) = D := by
  unfold aimM
  rw [mset_p _ _ _ _ (by decide), mset_p _ _ _ _ (by decide), mset_p _ _ _ _ (by decide), mset_s]
theorem aimM_7 (N : pm_M) (G w a p b q c D : Int) : aimM N G w a p b q c D 82 G = -1 := by
  unfold aimM
  rw [mset_p _ _ _ _ (by decide), mset_p _ _ _ _ (by decide), mset_s]
theorem aimM_8 (N : pm_M) (G w a p b q c D : Int) : aimM N G w a p b q c D 84 G = 0 := by
  unfold aimM
  rw [mset_p _ _ _ _ (by decide), mset_s]
theorem CH_aimL {u x : Int} : ∀ (gs : List Gl) (zs : List Gz) (N : pm_M) (G : Int), GR N u x gs zs → CH (aimL N G gs) u x G zs
  | [], [], _, _, _ => trivial
  | y :: gs, z :: zs, N, G, h => by
    obtain ⟨⟨h0, h1, h2, t⟩, hr⟩ := h
    have hs : ∀ (r : Nat) (i : Int), r = 73 ∨ r = 74 ∨ r = 75 ∨ r = 76 → aimG N G y r i = N r i := fun r i h => aimM_o _ _ _ _ _ _ _ _ _ (by omega) (by omega) (by omega) (by omega)
    have ih := CH_aimL gs zs (aimG N G y) (G + 1) (GR.same hs hr)
    refine ⟨⟨⟨y.2.1, y.2.2.1, y.2.2.2.1, y.2.2.2.2.1, y.2.2.2.2.2.1, ?_, ?_, ?_, ?_, ?_, ?_, ?_, aimL_ext gs _ _ _ _ (TH.same hs t), ?_, h1⟩, ?_⟩, ih⟩
    · show aimL (aimG N G y) (G + 1) gs 81 (7 * G) = _
      rw [aimL_lo _ _ _ (fun _ => by omega) (fun e => by omega) (fun e => by omega), ← h0]
      exact aimM_0 ..
    · show aimL (aimG N G y) (G + 1) gs 81 (7 * G + 1) = _
      rw [aimL_lo _ _ _ (fun _ => by omega) (fun e => by omega) (fun e => by omega)]
      exact aimM_1 ..
    · show aimL (aimG N G y) (G + 1) gs 81 (7 * G + 2) = _
      rw [aimL_lo _ _ _ (fun _ => by omega) (fun e => by omega) (fun e => by omega)]
      exact aimM_2 ..
    · show aimL (aimG N G y) (G + 1) gs 81 (7 * G + 3) = _
      rw [aimL_lo _ _ _ (fun _ => by omega) (fun e => by omega) (fun e => by omega)]
      exact aimM_3 ..
    · show aimL (aimG N G y) (G + 1) gs 81 (7 * G + 4) = _
      rw [aimL_lo _ _ _ (fun _ => by omega) (fun e => by omega) (fun e => by omega)]
      exact aimM_4 ..
    · show aimL (aimG N G y) (G + 1) gs 81 (7 * G + 5) = _
      rw [aimL_lo _ _ _ (fun _ => by omega) (fun e => by omega) (fun e => by omega)]
      exact aimM_5 ..
    · show aimL (aimG N G y) (G + 1) gs 81 (7 * G + 6) = _
      rw [aimL_lo _ _ _ (fun _ => by omega) (fun e => by omega) (fun e => by omega), ← h2]
      exact aimM_6 ..
    · show aimL (aimG N G y) (G + 1) gs 84 G = 0
      rw [aimL_lo _ _ _ (fun e => by omega) (fun _ => by omega) (fun e => by omega)]
      exact aimM_8 ..
    · show aimL (aimG N G y) (G + 1) gs 82 G = -1
      rw [aimL_lo _ _ _ (fun e => by omega) (fun _ => by omega) (fun e => by omega)]
      exact aimM_7 ..
  | [], _ :: _, _, _, h => h.elim
  | _ :: _, [], _, _, h => h.elim
/-! WHAT PART LEAVES: done, again with a lighter pair, or goals for the parts. -/
def OA (N' : pm_M) (u x g G u' : Int) (z : Gz) : Prop := N' 56 22 = u' ∧ N' 56 24 = x ∧ N' 56 36 = G ∧ u ≤ u' ∧ u' ≤ u + (gm z : Nat) ∧ N' 82 g = -1 ∧ RS N' u' g (gv z)
def OB (N' : pm_M) (u x g G : Int) (z z' : Gz) : Prop := N' 56 22 = u + 1 ∧ N' 56 24 = x ∧ N' 56 36 = G ∧ N' 82 g = -2 ∧ GE N' (u + 1) x g z' ∧ gm z' + 1 ≤ gm z ∧ gn z' ≤ gn z ∧ LZ z' ∧ gv z' = gv z
def BD (N : pm_M) (u g f : Int) (rs : List Rs) (z : Gz) : Prop := N 81 (7 * g) = (z.1 : Int) ∧ N 83 g = f ∧ N 84 g = 0 ∧ ((N 82 g = 1 ∧ rs.length = 2 ∧ FN z.1 [1] rs (gv z)) ∨ (∃ ls : Nat, ls < 8 ∧ N 82 g = ((8 + ls : Nat) : Int) ∧ rs.length = lab (ls : Int) ∧ FN z.1 [((8 + ls : Nat) : Int)] rs (gv z)) ∨ (∃ (A : Ty) (D : Nat) (a p : Int), N 82 g = 2 ∧ rs.length = 1 ∧ N 81 (7 * g + 1) = a ∧ N 81 (7 * g + 2) = p ∧ 0 ≤ a ∧ a < u ∧ 0 ≤ p ∧ p + 1 + ((flat A).length : Int) ≤ 17 ∧ ok D A = true ∧ Row N a (p + 1) (flat A) ∧ FN z.1 (2 :: flat A) rs (gv z)))
def OC (N' : pm_M) (u x g G u' x' : Int) (zs : List Gz) (z : Gz) : Prop := N' 56 22 = u' ∧ N' 56 24 = x' ∧ N' 56 36 = G + zs.length ∧ u ≤ u' ∧ u' ≤ u + 1 ∧ x ≤ x' ∧ x' ≤ x + 1 ∧ CH N' u' x' G zs ∧ ((sgl gm zs : Nat) : Int) + 1 + (u' - u) ≤ (gm z : Nat) ∧ sgl gn zs + 1 ≤ gn z ∧ (∀ y ∈ zs, LZ y) ∧ zs.length ≤ 3 ∧ BD N' u' g G (zs.map gv) z
theorem BD.keep {N N' : pm_M} {u x u' g G j f : Int} {rs : List Rs} {z : Gz} (h : PF N N' u x g G) (hj : j ≠ g) (hG : j < G) (hu : u ≤ u') (e : BD N u j f rs z) : BD N' u' j f rs z := by
  have k : ∀ (p : Nat) (i : Int), (p = 81 ∧ 7 * j ≤ i ∧ i < 7 * j + 7) ∨ (p = 82 ∧ i = j) ∨ (p = 83 ∧ i = j) ∨ (p = 84 ∧ i = j) → N' p i = N p i := fun p i hp => h p i (by unfold WR; omega)
  obtain ⟨e0, e1, e2, e3⟩ := e
  refine ⟨by rw [k _ _ (by omega)]; exact e0, by rw [k _ _ (by omega)]; exact e1, by rw [k _ _ (by omega)]; exact e2, ?_⟩
  rcases e3 with ⟨q1, q2, q3⟩ | ⟨ls, q0, q1, q2, q3⟩ | ⟨A, D, a, p, q1, q2, q3, q4, q5, q6, q7, q8, q9, q10, q11⟩
  · exact Or.inl ⟨by rw [k _ _ (by omega)]; exact q1, q2, q3⟩
  · exact Or.inr (Or.inl ⟨ls, q0, by rw [k _ _ (by omega)]; exact q1, q2, q3⟩)
  · refine Or.inr (Or.inr ⟨A, D, a, p, by rw [k _ _ (by omega)]; exact q1, q2, by rw [k _ _ (by omega)]; exact q3, by rw [k _ _ (by omega)]; exact q4, q5, by omega, q7, q8, q9, ?_, q11⟩)
    exact Row.same (fun i _ _ => h _ _ (by unfold WR; omega)) q10
