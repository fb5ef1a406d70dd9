/-! THE MODEL: goals that are posed one after another; fields. -/
abbrev Gl : Type := Int × Int × Int × Int × Int × Int × Int
def aimG (N : pm_M) (G : Int) (z : Gl) : pm_M := aimM N G z.1 z.2.1 z.2.2.1 z.2.2.2.1 z.2.2.2.2.1 z.2.2.2.2.2.1 z.2.2.2.2.2.2
def aimL : pm_M → Int → List Gl → pm_M
  | N, _, [] => N
  | N, G, z :: l => aimL (aimG N G z) (G + 1) l
def glr (z : Gl) : Prop := R32 z.1 ∧ R32 z.2.1 ∧ R32 z.2.2.1 ∧ R32 z.2.2.2.1 ∧ R32 z.2.2.2.2.1 ∧ R32 z.2.2.2.2.2.1 ∧ R32 z.2.2.2.2.2.2
theorem aimL_app : ∀ (l l' : List Gl) (N : pm_M) (G : Int), aimL N G (l ++ l') = aimL (aimL N G l) (G + l.length) l'
  | [], l', N, G => by
    show aimL N G l' = aimL N (G + ((0 : Nat) : Int)) l'
    rw [show G + ((0 : Nat) : Int) = G by omega]
  | z :: l, l', N, G => by
    show aimL (aimG N G z) (G + 1) (l ++ l') = aimL (aimL (aimG N G z) (G + 1) l) (G + ((l.length + 1 : Nat) : Int)) l'
    rw [aimL_app l l', show G + 1 + (l.length : Int) = G + ((l.length + 1 : Nat) : Int) by omega]
theorem aimM_lo (N : pm_M) (G w a p b q c D : Int) {r : Nat} {i : Int} (h1 : r = 81 → i < 7 * G) (h2 : r = 82 ∨ r = 84 → i < G) (h4 : r = 56 → i ≠ 36) : aimM N G w a p b q c D r i = N r i := by
  unfold aimM
  have h5 : ¬ (r = 56 ∧ i = 36) := fun e => h4 e.1 e.2
  have h6 : ∀ k : Int, 0 ≤ k → ¬ (r = 81 ∧ i = 7 * G + k) := fun k hk e => by have := h1 e.1; omega
  have h7 : ¬ (r = 84 ∧ i = G) := fun e => by have := h2 (Or.inr e.1); omega
  have h8 : ¬ (r = 82 ∧ i = G) := fun e => by have := h2 (Or.inl e.1); omega
  have h9 := h6 0 (by decide)
  rw [Int.add_zero] at h9
  unfold mset
  rw [if_neg h5, if_neg h7, if_neg h8, if_neg (h6 6 (by decide)), if_neg (h6 5 (by decide)), if_neg (h6 4 (by decide)), if_neg (h6 3 (by decide)), if_neg (h6 2 (by decide)), if_neg (h6 1 (by decide)), if_neg h9]
theorem aimL_lo : ∀ (l : List Gl) (N : pm_M) (G : Int) {r : Nat} {i : Int}, (r = 81 → i < 7 * G) → (r = 82 ∨ r = 84 → i < G) → (r = 56 → i ≠ 36) → aimL N G l r i = N r i
  | [], _, _, _, _, _, _, _ => rfl
  | z :: l, N, G, r, i, h1, h2, h3 => by
    show aimL (aimG N G z) (G + 1) l r i = N r i
    rw [aimL_lo l (aimG N G z) (G + 1) (fun e => by have := h1 e; omega) (fun e => by have := h2 e; omega) h3]
    exact aimM_lo N G _ _ _ _ _ _ _ h1 h2 h3
theorem aimL_g : ∀ (l : List Gl) (N : pm_M) (G : Int), N 56 36 = G → aimL N G l 56 36 = G + l.length
  | [], N, G, h => by show N 56 36 = G + ((0 : Nat) : Int); omega
  | z :: l, N, G, h => by
    show aimL (aimG N G z) (G + 1) l 56 36 = G + ((l.length + 1 : Nat) : Int)
    rw [aimL_g l (aimG N G z) (G + 1) (aimM_g _ _ _ _ _ _ _ _ _)]
    omega
theorem aimL_R32 : ∀ (l : List Gl) (N : pm_M) (G : Int), (∀ p i, R32 (N p i)) → (∀ z ∈ l, glr z) → 0 ≤ G → G + l.length ≤ 600 → ∀ p i, R32 (aimL N G l p i)
  | [], N, G, h, _, _, _ => h
  | z :: l, N, G, h, hl, h0, h1 => by
    rw [List.length_cons] at h1
    obtain ⟨z0, z1, z2, z3, z4, z5, z6⟩ := hl z (List.mem_cons_self ..)
    exact aimL_R32 l (aimG N G z) (G + 1) (aimM_R32 h z0 z1 z2 z3 z4 z5 z6 ⟨by omega, by omega⟩) (fun y hy => hl y (List.mem_cons_of_mem _ hy)) (by omega) (by omega)
/-- rows and contexts see places 73 to 76 alone -/
theorem TH.same {N N' : pm_M} {u x a p b q c D : Int} {z : Tsk} (e : ∀ (r : Nat) (i : Int), r = 73 ∨ r = 74 ∨ r = 75 ∨ r = 76 → N' r i = N r i) (t : TH N u x a p b q c D z) : TH N' u x a p b q c D z := by
  have hctx : ∀ {Γ : List Ty} {c : Int}, Ctx N u x c Γ → Ctx N' u x c Γ := by
    intro Γ
    induction Γ with
    | nil => intro c h; exact h
    | cons b Γ ih =>
      intro c h
      obtain ⟨q0, q1, q2, q3, q4, q5, q6, q7, q8⟩ := h
      refine ⟨q0, q1, by rw [e 75 _ (by decide)]; exact q2, by rw [e 76 _ (by decide)]; exact q3, by rw [e 76 _ (by decide)]; exact q4, ?_, q6, q7, ?_⟩
      · rw [e 76 _ (by decide)]; exact Row.same (fun l _ _ => e 73 _ (by decide)) q5
      · rw [e 74 _ (by decide)]; exact ih q8
  exact ⟨t.a0, t.a1, t.p0, t.p1, Row.same (fun _ _ _ => e 73 _ (by decide)) t.ra, t.b0, t.b1, t.q0, t.q1, Row.same (fun _ _ _ => e 73 _ (by decide)) t.rb, hctx t.hc, t.hD, t.ok⟩
theorem b82_TH {N : pm_M} {g v u x a p b q c D : Int} {z : Tsk} (t : TH N u x a p b q c D z) : TH (mset N 82 g v) u x a p b q c D z :=
  t.same (fun r i h => mset_p _ _ _ _ (by omega))
/-- rows and contexts are untouched -/
theorem aimL_ext (l : List Gl) (N : pm_M) (G u x : Int) {a p b q c D : Int} {z : Tsk} (t : TH N u x a p b q c D z) : TH (aimL N G l) u x a p b q c D z :=
  t.same (fun r i h => aimL_lo l N G (fun e => by omega) (fun e => by omega) (fun e => by omega))
/-- the goal of a label -/
def fgl (W a b c D : Int) (ls m m' i : Nat) (l r : Int) : List Gl :=
  if bit ls i then (if bit m i then (if bit m' i then [(W, a, l, b, r, c, D)] else [(2, a, l, a, l, c, D)]) else [(2, b, r, b, r, c, D)]) else []
theorem fgl_len {W a b c D : Int} {ls m m' i : Nat} {l r : Int} : (fgl W a b c D ls m m' i l r).length ≤ 1 := by
  unfold fgl
  repeat' split
  all_goals simp
theorem fgl_r {W a b c D : Int} {ls m m' i : Nat} {l r : Int} (rW : R32 W) (ra : R32 a) (rb : R32 b) (rc : R32 c) (rD : R32 D) (rl : R32 l) (rr : R32 r) : ∀ z ∈ fgl W a b c D ls m m' i l r, glr z := by
  intro z hz
  have r2 : R32 2 := ⟨by decide, by decide⟩
  unfold fgl at hz
  repeat' split at hz
  · rw [List.mem_singleton] at hz; subst hz; exact ⟨rW, ra, rl, rb, rr, rc, rD⟩
  · rw [List.mem_singleton] at hz; subst hz; exact ⟨r2, ra, rl, ra, rl, rc, rD⟩
  · rw [List.mem_singleton] at hz; subst hz; exact ⟨r2, rb, rr, rb, rr, rc, rD⟩
  · cases hz
section PmM13
variable {d : Nat} {Q : Option Value → pm_S → Prop} {M N : pm_M} {Rf : Nat → Nat → Nat} {K L : Nat → Nat} {n s : Nat}
theorem fields_s0 {u x g G W a p b q c : Int} {Γ : List Ty} {m m' ls : Nat} {X0 X1 X2 Y0 Y1 Y2 : Ty} {o5 o6 o7 o8 o9 o10 : Option Value} {l : List Gl} (hG : pm_G Rf K L n) (hM : ∀ p i, R32 (N p i)) (hl : ∀ z ∈ l, glr z) (hg : N 56 36 = G) (g0 : 0 ≤ g) (g1 : g < G) (g2 : G + l.length < 600) (u1 : u < 1100) (e0 : N 81 (7 * g) = W) (e1 : N 81 (7 * g + 1) = a) (e2 : N 81 (7 * g + 2) = p) (e3 : N 81 (7 * g + 3) = b) (e4 : N 81 (7 * g + 4) = q) (e5 : N 81 (7 * g + 5) = c) (e6 : N 81 (7 * g + 6) = (Γ.length : Int)) (hm : m < 8) (hm' : m' < 8) (hls : ls < 8) (hin : bit ls 0 = true → bit m 0 = true ∨ bit m' 0 = true) (t : TH N u x a p b q c (Γ.length : Int) (Γ, tRec m X0 X1 X2, tRec m' Y0 Y1 Y2)) (h : ∀ o5 o6 o7 o8 o9 o10 : Option Value, pm_Wp none (d + 4) 167 15 [some (.ref 56), some (.int (zI g)), some (.int (zI ((8 + ls : Nat) : Int))), some (.int (zI (7 * g))), some (.int (zI 1)), o5, o6, o7, o8, o9, o10] [] (zM (aimL N G (l ++ (fgl W a b c (Γ.length : Int) ls m m' 0 (p + 1 + fpos X0 X1 0) (q + 1 + fpos Y0 Y1 0)))), Rf, K, L, n, s) Q) : pm_Wp none (d + 4) 167 15 [some (.ref 56), some (.int (zI g)), some (.int (zI ((8 + ls : Nat) : Int))), some (.int (zI (7 * g))), some (.int (zI 0)), o5, o6, o7, o8, o9, o10] [] (zM (aimL N G l), Rf, K, L, n, s) Q := by
  rw [aimL_app] at h
  have en : ∀ k : Int, k ≤ 6 → aimL N G l 81 (7 * g + k) = N 81 (7 * g + k) := fun k hk => aimL_lo l N G (fun _ => by omega) (fun e => by omega) (fun e => by cases e)
  have en0 := en 0 (by decide)
  rw [Int.add_zero] at en0
  have hR := aimL_R32 l N G hM hl (by omega) (by omega)
  have hgl := aimL_g l N G hg
  have tl := aimL_ext l N G u x t
  refine fields_0 (G := G + l.length) hG hR hgl g0 (by omega) g2 u1 (en0.trans e0) ((en 1 (by decide)).trans e1) ((en 2 (by decide)).trans e2) ((en 3 (by decide)).trans e3) ((en 4 (by decide)).trans e4) ((en 5 (by decide)).trans e5) ((en 6 (by decide)).trans e6) hm hm' hls hin tl ?_ ?_ ?_ ?_
  · intro b1 b2 b3
    rw [fgl, if_pos b1, if_pos b2, if_pos b3] at h
    exact h
  · intro b1 b2 b3
    rw [fgl, if_pos b1, if_pos b2, if_neg b3] at h
    exact h
  · intro b1 b2 b3
    rw [fgl, if_pos b1, if_neg b2] at h
    exact h
  · intro b1
    rw [fgl, if_neg b1] at h
    exact h
theorem fields_s1 {u x g G W a p b q c : Int} {Γ : List Ty} {m m' ls : Nat} {X0 X1 X2 Y0 Y1 Y2 : Ty} {o5 o6 o7 o8 o9 o10 : Option Value} {l : List Gl} (hG : pm_G Rf K L n) (hM : ∀ p i, R32 (N p i)) (hl : ∀ z ∈ l, glr z) (hg : N 56 36 = G) (g0 : 0 ≤ g) (g1 : g < G) (g2 : G + l.length < 600) (u1 : u < 1100) (e0 : N 81 (7 * g) = W) (e1 : N 81 (7 * g + 1) = a) (e2 : N 81 (7 * g + 2) = p) (e3 : N 81 (7 * g + 3) = b) (e4 : N 81 (7 * g + 4) = q) (e5 : N 81 (7 * g + 5) = c) (e6 : N 81 (7 * g + 6) = (Γ.length : Int)) (hm : m < 8) (hm' : m' < 8) (hls : ls < 8) (hin : bit ls 1 = true → bit m 1 = true ∨ bit m' 1 = true) (t : TH N u x a p b q c (Γ.length : Int) (Γ, tRec m X0 X1 X2, tRec m' Y0 Y1 Y2)) (h : ∀ o5 o6 o7 o8 o9 o10 : Option Value, pm_Wp none (d + 4) 167 15 [some (.ref 56), some (.int (zI g)), some (.int (zI ((8 + ls : Nat) : Int))), some (.int (zI (7 * g))), some (.int (zI 2)), o5, o6, o7, o8, o9, o10] [] (zM (aimL N G (l ++ (fgl W a b c (Γ.length : Int) ls m m' 1 (p + 1 + fpos X0 X1 1) (q + 1 + fpos Y0 Y1 1)))), Rf, K, L, n, s) Q) : pm_Wp none (d + 4) 167 15 [some (.ref 56), some (.int (zI g)), some (.int (zI ((8 + ls : Nat) : Int))), some (.int (zI (7 * g))), some (.int (zI 1)), o5, o6, o7, o8, o9, o10] [] (zM (aimL N G l), Rf, K, L, n, s) Q := by
  rw [aimL_app] at h
  have en : ∀ k : Int, k ≤ 6 → aimL N G l 81 (7 * g + k) = N 81 (7 * g + k) := fun k hk => aimL_lo l N G (fun _ => by omega) (fun e => by omega) (fun e => by cases e)
  have en0 := en 0 (by decide)
  rw [Int.add_zero] at en0
  have hR := aimL_R32 l N G hM hl (by omega) (by omega)
  have hgl := aimL_g l N G hg
  have tl := aimL_ext l N G u x t
  refine fields_1 (G := G + l.length) hG hR hgl g0 (by omega) g2 u1 (en0.trans e0) ((en 1 (by decide)).trans e1) ((en 2 (by decide)).trans e2) ((en 3 (by decide)).trans e3) ((en 4 (by decide)).trans e4) ((en 5 (by decide)).trans e5) ((en 6 (by decide)).trans e6) hm hm' hls hin tl ?_ ?_ ?_ ?_
  · intro b1 b2 b3
    rw [fgl, if_pos b1, if_pos b2, if_pos b3] at h
    exact h
  · intro b1 b2 b3
    rw [fgl, if_pos b1, if_pos b2, if_neg b3] at h
    exact h
  · intro b1 b2 b3
    rw [fgl, if_pos b1, if_neg b2] at h
    exact h
  · intro b1
    rw [fgl, if_neg b1] at h
    exact h
theorem fields_s2 {u x g G W a p b q c : Int} {Γ : List Ty} {m m' ls : Nat} {X0 X1 X2 Y0 Y1 Y2 : Ty} {o5 o6 o7 o8 o9 o10 : Option Value} {l : List Gl} (hG : pm_G Rf K L n) (hM : ∀ p i, R32 (N p i)) (hl : ∀ z ∈ l, glr z) (hg : N 56 36 = G) (g0 : 0 ≤ g) (g1 : g < G) (g2 : G + l.length < 600) (u1 : u < 1100) (e0 : N 81 (7 * g) = W) (e1 : N 81 (7 * g + 1) = a) (e2 : N 81 (7 * g + 2) = p) (e3 : N 81 (7 * g + 3) = b) (e4 : N 81 (7 * g + 4) = q) (e5 : N 81 (7 * g + 5) = c) (e6 : N 81 (7 * g + 6) = (Γ.length : Int)) (hm : m < 8) (hm' : m' < 8) (hls : ls < 8) (hin : bit ls 2 = true → bit m 2 = true ∨ bit m' 2 = true) (t : TH N u x a p b q c (Γ.length : Int) (Γ, tRec m X0 X1 X2, tRec m' Y0 Y1 Y2)) (h : ∀ o5 o6 o7 o8 o9 o10 : Option Value, pm_Wp none (d + 4) 167 15 [some (.ref 56), some (.int (zI g)), some (.int (zI ((8 + ls : Nat) : Int))), some (.int (zI (7 * g))), some (.int (zI 3)), o5, o6, o7, o8, o9, o10] [] (zM (aimL N G (l ++ (fgl W a b c (Γ.length : Int) ls m m' 2 (p + 1 + fpos X0 X1 2) (q + 1 + fpos Y0 Y1 2)))), Rf, K, L, n, s) Q) : pm_Wp none (d + 4) 167 15 [some (.ref 56), some (.int (zI g)), some (.int (zI ((8 + ls : Nat) : Int))), some (.int (zI (7 * g))), some (.int (zI 2)), o5, o6, o7, o8, o9, o10] [] (zM (aimL N G l), Rf, K, L, n, s) Q := by
  rw [aimL_app] at h
  have en : ∀ k : Int, k ≤ 6 → aimL N G l 81 (7 * g + k) = N 81 (7 * g + k) := fun k hk => aimL_lo l N G (fun _ => by omega) (fun e => by omega) (fun e => by cases e)
  have en0 := en 0 (by decide)
  rw [Int.add_zero] at en0
  have hR := aimL_R32 l N G hM hl (by omega) (by omega)
  have hgl := aimL_g l N G hg
  have tl := aimL_ext l N G u x t
  refine fields_2 (G := G + l.length) hG hR hgl g0 (by omega) g2 u1 (en0.trans e0) ((en 1 (by decide)).trans e1) ((en 2 (by decide)).trans e2) ((en 3 (by decide)).trans e3) ((en 4 (by decide)).trans e4) ((en 5 (by decide)).trans e5) ((en 6 (by decide)).trans e6) hm hm' hls hin tl ?_ ?_ ?_ ?_
  · intro b1 b2 b3
    rw [fgl, if_pos b1, if_pos b2, if_pos b3] at h
    exact h
  · intro b1 b2 b3
    rw [fgl, if_pos b1, if_pos b2, if_neg b3] at h
    exact h
  · intro b1 b2 b3
    rw [fgl, if_pos b1, if_neg b2] at h
    exact h
  · intro b1
    rw [fgl, if_neg b1] at h
    exact h
set_option maxRecDepth 20000 in
set_option maxHeartbeats 1000000 in
theorem m_fields {u x g G W a p b q c : Int} {Γ : List Ty} {m m' ls : Nat} {X0 X1 X2 Y0 Y1 Y2 : Ty} (hG : pm_G Rf K L n) (hM : ∀ p i, R32 (N p i)) (hg : N 56 36 = G) (g0 : 0 ≤ g) (g1 : g < G) (g2 : G + 3 ≤ 600) (u1 : u < 1100) (x0 : 0 ≤ x) (x1 : x < 900) (hD : Γ.length < 2000) (W0 : 0 ≤ W) (W1 : W ≤ 2) (e0 : N 81 (7 * g) = W) (e1 : N 81 (7 * g + 1) = a) (e2 : N 81 (7 * g + 2) = p) (e3 : N 81 (7 * g + 3) = b) (e4 : N 81 (7 * g + 4) = q) (e5 : N 81 (7 * g + 5) = c) (e6 : N 81 (7 * g + 6) = (Γ.length : Int)) (hm : m < 8) (hm' : m' < 8) (hls : ls < 8) (hin : ∀ i, i < 3 → bit ls i = true → bit m i = true ∨ bit m' i = true) (t : TH N u x a p b q c (Γ.length : Int) (Γ, tRec m X0 X1 X2, tRec m' Y0 Y1 Y2)) (h : Q none (zM (aimL (mset N 82 g ((8 + ls : Nat) : Int)) G ((fgl W a b c (Γ.length : Int) ls m m' 0 (p + 1 + fpos X0 X1 0) (q + 1 + fpos Y0 Y1 0)) ++ ((fgl W a b c (Γ.length : Int) ls m m' 1 (p + 1 + fpos X0 X1 1) (q + 1 + fpos Y0 Y1 1)) ++ (fgl W a b c (Γ.length : Int) ls m m' 2 (p + 1 + fpos X0 X1 2) (q + 1 + fpos Y0 Y1 2))))), Rf, K, L, n, s)) : pm_Wc (d + 5) 167 [.ref 56, .int (zI g), .int (zI ((8 + ls : Nat) : Int))] (zM N, Rf, K, L, n, s) Q := by
  refine wc_in (ls0 := [some (.ref 56), some (.int (zI g)), some (.int (zI ((8 + ls : Nat) : Int))), none, none, none, none, none, none, none, none]) (by decide) (Nat.le_of_ble_eq_true rfl) rfl rfl ?_
  have t1 := t.a0; have t2 := t.a1; have t3 := t.p0; have t4 := t.p1; have t5 := t.b0; have t6 := t.b1; have t7 := t.q0; have t8 := t.q1
  simp only at t4 t8
  rw [flat_rec] at t4 t8
  simp only [List.length_cons, List.length_append] at t4 t8
  have hcr := t.hc.rng x0 (by omega)
  have fp : ∀ i, i < 3 → fpos X0 X1 i ≤ 17 ∧ fpos Y0 Y1 i ≤ 17 := by
    intro i hi
    match i, hi with
    | 0, _ => exact ⟨Nat.zero_le _, Nat.zero_le _⟩
    | 1, _ => exact ⟨by show (flat X0).length ≤ 17; omega, by show (flat Y0).length ≤ 17; omega⟩
    | 2, _ => exact ⟨by show (flat X0).length + (flat X1).length ≤ 17; omega, by show (flat Y0).length + (flat Y1).length ≤ 17; omega⟩
  have fr : ∀ i, i < 3 → ∀ z ∈ fgl W a b c (Γ.length : Int) ls m m' i (p + 1 + fpos X0 X1 i) (q + 1 + fpos Y0 Y1 i), glr z := fun i hi => by
    have := fp i hi
    exact fgl_r ⟨by omega, by omega⟩ ⟨by omega, by omega⟩ ⟨by omega, by omega⟩ ⟨by omega, by omega⟩ ⟨by omega, by omega⟩ ⟨by omega, by omega⟩ ⟨by omega, by omega⟩
  have hM1 : ∀ p i, R32 (mset N 82 g ((8 + ls : Nat) : Int) p i) := mset_R32 hM ⟨by omega, by omega⟩
  have t' : TH (mset N 82 g ((8 + ls : Nat) : Int)) u x a p b q c (Γ.length : Int) (Γ, tRec m X0 X1 X2, tRec m' Y0 Y1 Y2) := b82_TH t
  refine wz_bipush d167_0 (by decide) ?_
  refine wp_iload_n d167_2 rfl ?_
  refine wz_imul d167_3 ?_
  refine wp_istore_n d167_4 (Nat.le_of_ble_eq_true rfl) rfl ?_
  refine wp_aload_n d167_5 rfl ?_
  refine wp_getR (q := 82) d167_6 rfl (hG.o (by decide) rfl) (by decide) (hG.r (by decide +kernel)) (by decide) ?_
  refine wp_iload_n d167_9 rfl ?_
  refine wp_iload_n d167_10 rfl ?_
  refine wz_iast (z := 600) d167_11 (hG.a (by decide) rfl rfl) (by omega) (by omega) (by decide) ?_
  refine wz_iconst d167_12 ?_
  refine wp_istore d167_13 (Nat.le_of_ble_eq_true rfl) rfl ?_
  have l0 := @fgl_len W a b c (Γ.length : Int) ls m m' 0 (p + 1 + fpos X0 X1 0) (q + 1 + fpos Y0 Y1 0)
  have l1 := @fgl_len W a b c (Γ.length : Int) ls m m' 1 (p + 1 + fpos X0 X1 1) (q + 1 + fpos Y0 Y1 1)
  refine fields_s0 (l := []) (W := W) (G := G) (N := mset N 82 g ((8 + ls : Nat) : Int)) hG hM1 (fun z hz => by cases hz) (by rw [mset_p _ _ _ _ (by decide)]; exact hg) g0 g1 (by rw [List.length_nil]; omega) u1 (by rw [mset_p _ _ _ _ (by decide)]; exact e0) (by rw [mset_p _ _ _ _ (by decide)]; exact e1) (by rw [mset_p _ _ _ _ (by decide)]; exact e2) (by rw [mset_p _ _ _ _ (by decide)]; exact e3) (by rw [mset_p _ _ _ _ (by decide)]; exact e4) (by rw [mset_p _ _ _ _ (by decide)]; exact e5) (by rw [mset_p _ _ _ _ (by decide)]; exact e6) hm hm' hls (hin 0 (by decide)) t' (fun o5 o6 o7 o8 o9 o10 => ?_)
  rw [List.nil_append]
  refine fields_s1 (W := W) (G := G) (N := mset N 82 g ((8 + ls : Nat) : Int)) hG hM1 (fr 0 (by decide)) (by rw [mset_p _ _ _ _ (by decide)]; exact hg) g0 g1 (by omega) u1 (by rw [mset_p _ _ _ _ (by decide)]; exact e0) (by rw [mset_p _ _ _ _ (by decide)]; exact e1) (by rw [mset_p _ _ _ _ (by decide)]; exact e2) (by rw [mset_p _ _ _ _ (by decide)]; exact e3) (by rw [mset_p _ _ _ _ (by decide)]; exact e4) (by rw [mset_p _ _ _ _ (by decide)]; exact e5) (by rw [mset_p _ _ _ _ (by decide)]; exact e6) hm hm' hls (hin 1 (by decide)) t' (fun o5 o6 o7 o8 o9 o10 => ?_)
  refine fields_s2 (W := W) (G := G) (N := mset N 82 g ((8 + ls : Nat) : Int)) hG hM1 (fun z hz => (List.mem_append.mp hz).elim (fr 0 (by decide) z) (fr 1 (by decide) z)) (by rw [mset_p _ _ _ _ (by decide)]; exact hg) g0 g1 (by rw [List.length_append]; omega) u1 (by rw [mset_p _ _ _ _ (by decide)]; exact e0) (by rw [mset_p _ _ _ _ (by decide)]; exact e1) (by rw [mset_p _ _ _ _ (by decide)]; exact e2) (by rw [mset_p _ _ _ _ (by decide)]; exact e3) (by rw [mset_p _ _ _ _ (by decide)]; exact e4) (by rw [mset_p _ _ _ _ (by decide)]; exact e5) (by rw [mset_p _ _ _ _ (by decide)]; exact e6) hm hm' hls (hin 2 (by decide)) t' (fun o5 o6 o7 o8 o9 o10 => ?_)
  rw [List.append_assoc]
  refine wp_iload d167_15 rfl ?_
  refine wz_iconst d167_17 ?_
  refine wz_icmp_ge (t := 297) d167_18 (by decide) (⟨by omega, by omega⟩) (⟨by omega, by omega⟩) (fun _ => ?_) (fun hb => absurd (by decide) hb)
  exact wp_ret d167_297 rfl h
end PmM13
