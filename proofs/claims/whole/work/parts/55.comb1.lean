/-! COMBINE: what holds while goals are taken one after another. -/
def gzd : Gz := (0, [], tTop, tTop)
def chl (Z : Nat → Gz) : Nat → Nat → List Rs
  | _, 0 => []
  | f, k + 1 => gv (Z f) :: chl Z (f + 1) k
def sg (μ : Gz → Nat) (Z : Nat → Gz) : Nat → Nat → Nat
  | _, 0 => 0
  | f, k + 1 => μ (Z f) + sg μ Z (f + 1) k
def cb (b : Int → Int) : Nat → Nat
  | 0 => 0
  | k + 1 => cb b k + (if 0 ≤ b (k : Int) then 1 else 0)
theorem chl_congr {Z Z' : Nat → Gz} : ∀ {k f : Nat}, (∀ j, f ≤ j → j < f + k → Z' j = Z j) → chl Z' f k = chl Z f k
  | 0, _, _ => rfl
  | k + 1, f, h => by
    show gv (Z' f) :: chl Z' (f + 1) k = gv (Z f) :: chl Z (f + 1) k
    rw [h f (by omega) (by omega), chl_congr (fun j h1 h2 => h j (by omega) (by omega))]
theorem chl_gv {Z Z' : Nat → Gz} : ∀ {k f : Nat}, (∀ j, f ≤ j → j < f + k → gv (Z' j) = gv (Z j)) → chl Z' f k = chl Z f k
  | 0, _, _ => rfl
  | k + 1, f, h => by
    show gv (Z' f) :: chl Z' (f + 1) k = gv (Z f) :: chl Z (f + 1) k
    rw [h f (by omega) (by omega), chl_gv (fun j h1 h2 => h j (by omega) (by omega))]
theorem sg_congr {μ : Gz → Nat} {Z Z' : Nat → Gz} : ∀ {k f : Nat}, (∀ j, f ≤ j → j < f + k → Z' j = Z j) → sg μ Z' f k = sg μ Z f k
  | 0, _, _ => rfl
  | k + 1, f, h => by
    show μ (Z' f) + sg μ Z' (f + 1) k = μ (Z f) + sg μ Z (f + 1) k
    rw [h f (by omega) (by omega), sg_congr (fun j h1 h2 => h j (by omega) (by omega))]
theorem sg_app (μ : Gz → Nat) (Z : Nat → Gz) : ∀ (a b f : Nat), sg μ Z f (a + b) = sg μ Z f a + sg μ Z (f + a) b
  | 0, b, f => by rw [Nat.zero_add, Nat.add_zero]; show _ = 0 + _; omega
  | a + 1, b, f => by
    rw [show a + 1 + b = (a + b) + 1 by omega]
    show μ (Z f) + sg μ Z (f + 1) (a + b) = μ (Z f) + sg μ Z (f + 1) a + sg μ Z (f + (a + 1)) b
    rw [sg_app μ Z a b (f + 1), show f + 1 + a = f + (a + 1) by omega]; omega
theorem sg_ge {μ : Gz → Nat} {Z : Nat → Gz} : ∀ {k f : Nat}, (∀ j, f ≤ j → j < f + k → 1 ≤ μ (Z j)) → k ≤ sg μ Z f k
  | 0, _, _ => Nat.zero_le _
  | k + 1, f, h => by
    have h0 := h f (by omega) (by omega)
    have h1 := sg_ge (k := k) (f := f + 1) (fun j h1 h2 => h j (by omega) (by omega))
    show k + 1 ≤ μ (Z f) + sg μ Z (f + 1) k
    omega
theorem cb_congr {b b' : Int → Int} : ∀ {k : Nat}, (∀ j : Nat, j < k → b' j = b j) → cb b' k = cb b k
  | 0, _ => rfl
  | k + 1, h => by
    show cb b' k + (if 0 ≤ b' (k : Int) then 1 else 0) = cb b k + (if 0 ≤ b (k : Int) then 1 else 0)
    rw [cb_congr (fun j hj => h j (by omega)), h k (by omega)]
theorem chl_len (Z : Nat → Gz) : ∀ k f : Nat, (chl Z f k).length = k
  | 0, _ => rfl
  | k + 1, f => by show (chl Z (f + 1) k).length + 1 = k + 1; rw [chl_len Z k]
theorem chl_list {Z : Nat → Gz} : ∀ {zs : List Gz} {f : Nat}, (∀ i, i < zs.length → Z (f + i) = zs.getD i gzd) → chl Z f zs.length = zs.map gv
  | [], _, _ => rfl
  | z :: zs, f, h => by
    have h0 := h 0 (by simp)
    rw [Nat.add_zero] at h0
    have h0 : Z f = z := h0
    show gv (Z f) :: chl Z (f + 1) zs.length = gv z :: zs.map gv
    rw [h0, chl_list (zs := zs) (f := f + 1) (fun i hi => by have := h (i + 1) (by simp; omega); rw [show f + 1 + i = f + (i + 1) by omega, this]; rfl)]
theorem sg_list {μ : Gz → Nat} {Z : Nat → Gz} : ∀ {zs : List Gz} {f : Nat}, (∀ i, i < zs.length → Z (f + i) = zs.getD i gzd) → sg μ Z f zs.length = sgl μ zs
  | [], _, _ => rfl
  | z :: zs, f, h => by
    have h0 := h 0 (by simp)
    rw [Nat.add_zero] at h0
    have h0 : Z f = z := h0
    show μ (Z f) + sg μ Z (f + 1) zs.length = μ z + sgl μ zs
    rw [h0, sg_list (zs := zs) (f := f + 1) (fun i hi => by have := h (i + 1) (by simp; omega); rw [show f + 1 + i = f + (i + 1) by omega, this]; rfl)]
theorem CH_at {N : pm_M} {u x : Int} : ∀ {zs : List Gz} {f : Int} {i : Nat}, CH N u x f zs → i < zs.length → GE N u x (f + i) (zs.getD i gzd) ∧ N 82 (f + i) = -1
  | [], _, _, _, h => absurd h (Nat.not_lt_zero _)
  | z :: zs, f, 0, hc, _ => by
    have e : f + ((0 : Nat) : Int) = f := by omega
    rw [e]; exact hc.1
  | z :: zs, f, i + 1, hc, h => by
    have := CH_at (i := i) hc.2 (by rw [List.length_cons] at h; omega)
    rw [show f + 1 + (i : Int) = f + ((i + 1 : Nat) : Int) by omega] at this
    exact this
theorem getD_mem : ∀ {zs : List Gz} {i : Nat}, i < zs.length → zs.getD i gzd ∈ zs
  | [], _, h => absurd h (Nat.not_lt_zero _)
  | z :: zs, 0, _ => List.mem_cons_self ..
  | z :: zs, i + 1, h => List.mem_cons_of_mem _ (getD_mem (zs := zs) (i := i) (by rw [List.length_cons] at h; omega))
theorem RL_chl {N : pm_M} {u : Int} {Z : Nat → Gz} : ∀ {k f : Nat}, (∀ j : Nat, f ≤ j → j < f + k → RS N u j (gv (Z j))) → RL N u f (chl Z f k)
  | 0, _, _ => trivial
  | k + 1, f, h => by
    have := RL_chl (k := k) (f := f + 1) (fun j h1 h2 => h j (by omega) (by omega))
    rw [show ((f + 1 : Nat) : Int) = (f : Int) + 1 by omega] at this
    exact ⟨h f (by omega) (by omega), this⟩
/-- goals from G on are these -/
def zx (Z : Nat → Gz) (G : Nat) (zs : List Gz) : Nat → Gz := fun j => if j < G then Z j else zs.getD (j - G) gzd
theorem zx_lo {Z : Nat → Gz} {G : Nat} {zs : List Gz} {j : Nat} (h : j < G) : zx Z G zs j = Z j := if_pos h
theorem zx_hi {Z : Nat → Gz} {G : Nat} {zs : List Gz} (i : Nat) : zx Z G zs (G + i) = zs.getD i gzd := by
  unfold zx
  rw [if_neg (by omega), show G + i - G = i by omega]
def WC (u x : Int) (p : Nat) (i : Int) : Prop := (p = 56 ∧ (i = 22 ∨ i = 24 ∨ i = 34 ∨ i = 36)) ∨ (p = 73 ∧ 17 * u ≤ i) ∨ ((p = 74 ∨ p = 75 ∨ p = 76) ∧ x ≤ i) ∨ (80 ≤ p ∧ p ≤ 86)
def CF (N N' : pm_M) (u x : Int) : Prop := ∀ (p : Nat) (i : Int), ¬ WC u x p i → N' p i = N p i
theorem CF.pf {N0 N N' : pm_M} {u0 x0 u x g G : Int} (h : CF N0 N u0 x0) (hp : PF N N' u x g G) (hu : u0 ≤ u) (hx : x0 ≤ x) : CF N0 N' u0 x0 := by
  intro p i w
  rw [hp p i (by unfold WC at w; unfold WR; omega), h p i w]
/-- a goal that was taken: done, or waiting for its parts -/
def DB (N : pm_M) (u : Int) (G j : Nat) (Z : Nat → Gz) : Prop := (N 82 j = -1 ∧ RS N u j (gv (Z j))) ∨ (0 ≤ N 82 j ∧ ∃ f k : Nat, j < f ∧ f + k ≤ G ∧ BD N u j f (chl Z f k) (Z j))
theorem DB.keep {N N' : pm_M} {u x u' : Int} {g G G' j : Nat} {Z Z' : Nat → Gz} (h : PF N N' u x g G) (hj : j ≠ g) (hG : j < G) (hu : u ≤ u') (hG' : G ≤ G') (hZ : Z' j = Z j) (hgv : ∀ i, i < G → gv (Z' i) = gv (Z i)) (e : DB N u G j Z) : DB N' u' G' j Z' := by
  have e82 : N' 82 j = N 82 j := h _ _ (by unfold WR; omega)
  rcases e with ⟨h1, h2⟩ | ⟨h1, f, k, h2, h3, h4⟩
  · refine Or.inl ⟨by rw [e82]; exact h1, ?_⟩
    rw [hZ]
    exact h.rs (by omega) (by omega) hu h2
  · refine Or.inr ⟨by rw [e82]; exact h1, f, k, h2, by omega, ?_⟩
    rw [hZ, chl_gv (fun i _ hi => hgv i (by omega))]
    exact h4.keep h (by omega) (by omega) hu
def CI (N0 N : pm_M) (u0 x0 U X V u x : Int) (g G : Nat) (Z : Nat → Gz) (r0 : Rs) : Prop := (∀ p i, R32 (N p i)) ∧ N 56 22 = u ∧ N 56 24 = x ∧ N 56 36 = (G : Int) ∧ g ≤ G ∧ u0 ≤ u ∧ x0 ≤ x ∧ CF N0 N u0 x0 ∧ (∀ j : Nat, j < g → DB N u G j Z) ∧ (∀ j : Nat, g ≤ j → j < G → GE N u x j (Z j) ∧ N 82 j = -1 ∧ LZ (Z j)) ∧ (∀ j : Nat, j < G → GP (gv (Z j))) ∧ u + (sg gm Z g (G - g) : Nat) + (cb (N 82) g : Nat) ≤ U ∧ x + (sg gm Z g (G - g) : Nat) ≤ X ∧ (g : Int) + (sg gn Z g (G - g) : Nat) ≤ V ∧ 0 < G ∧ gv (Z 0) = r0
section PmCI
variable {N0 N N' : pm_M} {u0 x0 U X V u x u' x' : Int} {g G : Nat} {Z : Nat → Gz} {r0 : Rs}
theorem sg_at {μ : Gz → Nat} (h : g < G) : sg μ Z g (G - g) = μ (Z g) + sg μ Z (g + 1) (G - (g + 1)) := by
  rw [show G - g = (G - (g + 1)) + 1 by omega]
  rfl
/-- how much is left -/
def sf (Z : Nat → Gz) (g G : Nat) : Nat := sg gm Z g (G - g) + sg gn Z g (G - g)
theorem CI.room (c : CI N0 N u0 x0 U X V u x g G Z r0) : (G : Int) ≤ V := by
  obtain ⟨-, -, -, -, hgG, -, -, -, -, pe, -, -, -, hV, -, -⟩ := c
  have := sg_ge (μ := gn) (Z := Z) (k := G - g) (f := g) (fun j h1 h2 => gn_pos _)
  omega
theorem CI.A (c : CI N0 N u0 x0 U X V u x g G Z r0) (hg : g < G) (pf : PF N N' u x g G) (hM : ∀ p i, R32 (N' p i)) (o : OA N' u x g G u' (Z g)) : CI N0 N' u0 x0 U X V u' x (g + 1) G Z r0 ∧ sf Z (g + 1) G + 1 ≤ sf Z g G := by
  obtain ⟨-, c1, c2, c3, c4, c5, c6, cf, db, pe, gp, b1, b2, b3, g0, ge⟩ := c
  obtain ⟨o1, o2, o3, o4, o5, o6, o7⟩ := o
  have hp := gn_pos (Z g)
  unfold sf
  rw [sg_at hg] at b1 b2 b3
  rw [sg_at (μ := gm) hg, sg_at (μ := gn) hg]
  have hcb : cb (N' 82) (g + 1) = cb (N 82) g := by
    show cb (N' 82) g + (if 0 ≤ N' 82 (g : Int) then 1 else 0) = cb (N 82) g
    rw [o6, if_neg (by decide), cb_congr (fun j hj => pf _ _ (by unfold WR; omega))]
    rfl
  refine ⟨⟨hM, o1, o2, o3, by omega, by omega, by omega, cf.pf pf c5 c6, ?_, ?_, gp, by rw [hcb]; omega, by omega, by omega, g0, ge⟩, by omega⟩
  · intro j hj
    by_cases hjg : j = g
    · subst hjg; exact Or.inl ⟨o6, o7⟩
    · exact (db j (by omega)).keep pf hjg (by omega) o4 (Nat.le_refl _) rfl (fun _ _ => rfl)
  · intro j h1 h2
    obtain ⟨e1, e2, e3⟩ := pe j (by omega) h2
    exact ⟨e1.keep pf (by omega) (by omega) o4 (Int.le_refl _), by rw [pf _ _ (by unfold WR; omega)]; exact e2, e3⟩
theorem CI.B (c : CI N0 N u0 x0 U X V u x g G Z r0) (hg : g < G) (pf : PF N N' u x g G) (hM : ∀ p i, R32 (N' p i)) {y : Gz} (o : OB N' u x g G (Z g) y) : CI N0 (mset N' 82 g (-1)) u0 x0 U X V (u + 1) x g G (fun j => if j = g then y else Z j) r0 ∧ sf (fun j => if j = g then y else Z j) g G + 1 ≤ sf Z g G ∧ N' 82 g = -2 := by
  obtain ⟨-, c1, c2, c3, c4, c5, c6, cf, db, pe, gp, b1, b2, b3, g0, ge⟩ := c
  obtain ⟨o1, o2, o3, o4, o5, o6, o6', o7, o8⟩ := o
  have pf' : PF N (mset N' 82 g (-1)) u x g G := pf.set (by unfold WR; omega)
  have hgv : ∀ i, gv ((fun j => if j = g then y else Z j) i) = gv (Z i) := by
    intro i
    show gv (if i = g then y else Z i) = gv (Z i)
    by_cases hi : i = g
    · rw [if_pos hi, hi]; exact o8
    · rw [if_neg hi]
  have hsm : ∀ μ : Gz → Nat, sg μ (fun j => if j = g then y else Z j) g (G - g) = μ y + sg μ Z (g + 1) (G - (g + 1)) := by
    intro μ
    rw [sg_at hg]
    show μ (if g = g then y else Z g) + _ = _
    rw [if_pos rfl, sg_congr (Z := Z) (fun j h1 h2 => if_neg (by omega))]
  have hcb : cb (mset N' 82 g (-1) 82) g = cb (N 82) g := cb_congr (fun j hj => pf' _ _ (by unfold WR; omega))
  have hgp : ∀ j : Nat, j < G → GP (gv ((fun j => if j = g then y else Z j) j)) := fun j hj => by rw [hgv j]; exact gp j hj
  unfold sf
  rw [hsm gm, hsm gn, sg_at (μ := gm) hg, sg_at (μ := gn) hg]
  rw [sg_at hg] at b1 b2 b3
  refine ⟨⟨mset_R32 hM ⟨by omega, by omega⟩, ?_, ?_, ?_, c4, by omega, c6, cf.pf pf' c5 c6, ?_, ?_, hgp, by rw [hsm gm, hcb]; omega, by rw [hsm gm]; omega, by rw [hsm gn]; omega, g0, by rw [hgv 0]; exact ge⟩, by omega, o4⟩
  · rw [mset_p _ _ _ _ (by decide)]; exact o1
  · rw [mset_p _ _ _ _ (by decide)]; exact o2
  · rw [mset_p _ _ _ _ (by decide)]; exact o3
  · intro j hj
    exact (db j hj).keep pf' (by omega) (by omega) (by omega) (Nat.le_refl _) (if_neg (by omega)) (fun i _ => hgv i)
  · intro j h1 h2
    by_cases hjg : j = g
    · subst hjg
      show GE (mset N' 82 j (-1)) (u + 1) x j (if j = j then y else Z j) ∧ mset N' 82 j (-1) 82 j = -1 ∧ LZ (if j = j then y else Z j)
      rw [if_pos rfl]
      refine ⟨?_, by rw [mset_s], o7⟩
      obtain ⟨a, p, b, q, c, e0, e1, e2, e3, e4, e5, e6, t, e8, e9⟩ := o5
      refine ⟨a, p, b, q, c, ?_, ?_, ?_, ?_, ?_, ?_, ?_, b82_TH t, ?_, e9⟩
      · rw [mset_p _ _ _ _ (by decide)]; exact e0
      · rw [mset_p _ _ _ _ (by decide)]; exact e1
      · rw [mset_p _ _ _ _ (by decide)]; exact e2
      · rw [mset_p _ _ _ _ (by decide)]; exact e3
      · rw [mset_p _ _ _ _ (by decide)]; exact e4
      · rw [mset_p _ _ _ _ (by decide)]; exact e5
      · rw [mset_p _ _ _ _ (by decide)]; exact e6
      · rw [mset_p _ _ _ _ (by decide)]; exact e8
    · show GE (mset N' 82 g (-1)) (u + 1) x j (if j = g then y else Z j) ∧ mset N' 82 g (-1) 82 j = -1 ∧ LZ (if j = g then y else Z j)
      rw [if_neg hjg]
      obtain ⟨e1, e2, e3⟩ := pe j h1 h2
      exact ⟨e1.keep pf' (by omega) (by omega) (by omega) (Int.le_refl _), by rw [pf' _ _ (by unfold WR; omega)]; exact e2, e3⟩
theorem CI.C (c : CI N0 N u0 x0 U X V u x g G Z r0) (hg : g < G) (pf : PF N N' u x g G) (hM : ∀ p i, R32 (N' p i)) {zs : List Gz} (o : OC N' u x g G u' x' zs (Z g)) : CI N0 N' u0 x0 U X V u' x' (g + 1) (G + zs.length) (zx Z G zs) r0 ∧ sf (zx Z G zs) (g + 1) (G + zs.length) + 1 ≤ sf Z g G ∧ 0 ≤ N' 82 g := by
  obtain ⟨-, c1, c2, c3, c4, c5, c6, cf, db, pe, gp, b1, b2, b3, g0, ge⟩ := c
  obtain ⟨o1, o2, o3, o4, o5, o6, o7, ch, hw, hw', lz, h3, bd⟩ := o
  have hsm : ∀ μ : Gz → Nat, sg μ (zx Z G zs) (g + 1) (G + zs.length - (g + 1)) = sg μ Z (g + 1) (G - (g + 1)) + sgl μ zs := by
    intro μ
    rw [show G + zs.length - (g + 1) = (G - (g + 1)) + zs.length by omega, sg_app, show g + 1 + (G - (g + 1)) = G by omega, sg_list (fun i _ => zx_hi i), sg_congr (Z := Z) (fun j h1 h2 => zx_lo (by omega))]
  have h82 : 0 ≤ N' 82 g := by
    rcases bd.2.2.2 with ⟨e, -⟩ | ⟨ls, -, e, -⟩ | ⟨A, D, a, p, e, -⟩
    · rw [e]; decide
    · rw [e]; omega
    · rw [e]; decide
  have hcb : cb (N' 82) (g + 1) = cb (N 82) g + 1 := by
    show cb (N' 82) g + (if 0 ≤ N' 82 (g : Int) then 1 else 0) = cb (N 82) g + 1
    rw [if_pos h82, cb_congr (fun j hj => pf _ _ (by unfold WR; omega))]
  unfold sf
  rw [hsm gm, hsm gn, sg_at (μ := gm) hg, sg_at (μ := gn) hg]
  rw [sg_at hg] at b1 b2 b3
  have hgv : ∀ i, i < G → gv (zx Z G zs i) = gv (Z i) := fun i hi => by rw [zx_lo hi]
  refine ⟨⟨hM, o1, o2, by rw [o3]; omega, by omega, by omega, by omega, cf.pf pf c5 c6, ?_, ?_, ?_, by rw [hsm gm, hcb]; omega, by rw [hsm gm]; omega, by rw [hsm gn]; omega, by omega, by rw [hgv 0 g0]; exact ge⟩, by omega, h82⟩
  · intro j hj
    by_cases hjg : j = g
    · subst hjg
      refine Or.inr ⟨h82, G, zs.length, hg, Nat.le_refl _, ?_⟩
      rw [chl_list (fun i _ => zx_hi i), zx_lo hg]
      exact bd
    · exact (db j (by omega)).keep pf hjg (by omega) o4 (by omega) (zx_lo (by omega)) hgv
  · intro j h1 h2
    by_cases hjG : j < G
    · rw [zx_lo hjG]
      obtain ⟨e1, e2, e3⟩ := pe j (by omega) hjG
      exact ⟨e1.keep pf (by omega) (by omega) o4 o6, by rw [pf _ _ (by unfold WR; omega)]; exact e2, e3⟩
    · obtain ⟨i, rfl⟩ : ∃ i, j = G + i := ⟨j - G, by omega⟩
      have hi : i < zs.length := by omega
      rw [zx_hi i]
      have hc := CH_at ch hi
      rw [show (G : Int) + (i : Int) = ((G + i : Nat) : Int) by omega] at hc
      exact ⟨hc.1, hc.2, lz _ (getD_mem hi)⟩
  · intro j hj
    by_cases hjG : j < G
    · rw [zx_lo hjG]; exact gp j hjG
    · obtain ⟨i, rfl⟩ : ∃ i, j = G + i := ⟨j - G, by omega⟩
      rw [zx_hi i]
      exact (CH_at ch (by omega)).1.gp
end PmCI
