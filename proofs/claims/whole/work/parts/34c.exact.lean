/-! ROWS THAT A WALK TAKES, counted along the walk itself. -/
theorem twt_two {z : Tsk} (h : tok z) : 2 ≤ twt z := by
  have h1 := wt_pos h.2.1 (om z.1)
  have h2 := wt_pos h.2.2 (om z.1)
  unfold twt
  omega
theorem twt_mem : ∀ {l : List Tsk} {z : Tsk}, z ∈ l → twt z ≤ tws l
  | y :: l, z, h => by
    show twt z ≤ twt y + tws l
    rcases List.mem_cons.mp h with rfl | h
    · omega
    · have := twt_mem h; omega
def sumt (μ : Tsk → Nat) : List Tsk → Nat
  | [] => 0
  | z :: l => μ z + sumt μ l
theorem sumt_app (μ : Tsk → Nat) : ∀ a b : List Tsk, sumt μ (a ++ b) = sumt μ a + sumt μ b
  | [], b => by simp [sumt]
  | z :: a, b => by
    show μ z + sumt μ (a ++ b) = μ z + sumt μ a + sumt μ b
    rw [sumt_app μ a b]; omega
theorem sumt_mem {μ : Tsk → Nat} : ∀ {l : List Tsk} {z : Tsk}, z ∈ l → μ z ≤ sumt μ l
  | y :: l, z, h => by
    show μ z ≤ μ y + sumt μ l
    rcases List.mem_cons.mp h with rfl | h
    · omega
    · have := sumt_mem (μ := μ) h; omega
theorem sumt_congr {μ ν : Tsk → Nat} : ∀ {l : List Tsk}, (∀ z ∈ l, μ z = ν z) → sumt μ l = sumt ν l
  | [], _ => rfl
  | z :: l, h => by
    show μ z + sumt μ l = ν z + sumt ν l
    rw [h z (List.mem_cons_self ..), sumt_congr (fun y hy => h y (List.mem_cons_of_mem _ hy))]
theorem sumt_le {μ ν : Tsk → Nat} : ∀ {l : List Tsk}, (∀ z ∈ l, μ z ≤ ν z) → sumt μ l ≤ sumt ν l
  | [], _ => Nat.le_refl _
  | z :: l, h => by
    show μ z + sumt μ l ≤ ν z + sumt ν l
    have h1 := h z (List.mem_cons_self ..)
    have h2 := sumt_le (fun y hy => h y (List.mem_cons_of_mem _ hy))
    omega
/-- by fuel -/
def trf : Nat → Tsk → Nat
  | 0, _ => 0
  | f + 1, z => match stp z.1 z.2.1 z.2.2 with
    | none => 0
    | some l => rst z.2.1 z.2.2 + sumt (trf f) l
theorem trf_more : ∀ (f g : Nat) (z : Tsk), tok z → twt z ≤ f → twt z ≤ g → trf f z = trf g z
  | 0, _, z, h, hf, _ => by have := twt_two h; omega
  | _ + 1, 0, z, h, _, hg => by have := twt_two h; omega
  | f + 1, g + 1, z, h, hf, hg => by
    unfold trf
    cases e : stp z.1 z.2.1 z.2.2 with
    | none => rfl
    | some l =>
      obtain ⟨w1, w2⟩ := stp_w (Γ := z.1) (s := z.2.1) (t := z.2.2) h e
      have w1 : tws l + 1 ≤ twt z := w1
      show rst z.2.1 z.2.2 + sumt (trf f) l = rst z.2.1 z.2.2 + sumt (trf g) l
      rw [sumt_congr (fun y hy => ?_)]
      have := twt_mem hy
      exact trf_more f g y (w2 y hy) (by omega) (by omega)
/-- rows that a task takes, rows that tasks take -/
def trx (z : Tsk) : Nat := trf (twt z) z
def rxs (l : List Tsk) : Nat := sumt trx l
theorem rxs_app (a b : List Tsk) : rxs (a ++ b) = rxs a + rxs b := sumt_app _ a b
theorem stp_x {z : Tsk} {l : List Tsk} (h : tok z) (e : stp z.1 z.2.1 z.2.2 = some l) : rxs l + rst z.2.1 z.2.2 = trx z := by
  obtain ⟨w1, w2⟩ := stp_w (Γ := z.1) (s := z.2.1) (t := z.2.2) h e
  have w1 : tws l + 1 ≤ twt z := w1
  obtain ⟨n, hn⟩ : ∃ n, twt z = n + 1 := ⟨twt z - 1, by omega⟩
  unfold trx
  rw [hn]
  unfold trf
  simp only [e]
  rw [Nat.add_comm]
  congr 1
  refine sumt_congr (fun y hy => ?_)
  have := twt_mem hy
  exact trf_more _ _ y (w2 y hy) (Nat.le_refl _) (by omega)
theorem trx_none {z : Tsk} (e : stp z.1 z.2.1 z.2.2 = none) : trx z = 0 := by
  unfold trx
  cases twt z with
  | zero => rfl
  | succ n => unfold trf; simp only [e]
theorem stp_ctx {Γ : List Ty} {s t : Ty} {l : List Tsk} (h : tok (Γ, s, t)) (e : stp Γ s t = some l) : ∀ x ∈ l, x.1.length ≤ Γ.length + rst s t := by
  have hs : ok Γ.length s = true := h.2.1
  have key : ∀ m k x y, ∀ z ∈ stl Γ m k x y, z.1.length ≤ Γ.length + rst s t := by
    intro m k x y z hz
    unfold stl at hz
    split at hz
    · rw [List.mem_singleton] at hz; subst hz; simp only; omega
    · cases hz
  unfold stp at e
  by_cases n1 : hd t = 0 ∨ (16 ≤ hd s ∧ hd s = hd t)
  · rw [if_pos n1] at e
    cases e
    intro x hx; cases hx
  rw [if_neg n1] at e
  by_cases n2 : 16 ≤ hd s
  · rw [if_pos n2] at e
    cases e
    intro x hx
    rw [List.mem_singleton] at hx; subst hx; simp only; omega
  rw [if_neg n2] at e
  by_cases n3 : 8 ≤ hd s ∧ 8 ≤ hd t ∧ hd t < 16
  · rw [if_pos n3] at e
    split at e
    · cases e
      intro x hx
      rcases List.mem_append.mp hx with hx | hx
      · exact key _ _ _ _ x hx
      · rcases List.mem_append.mp hx with hx | hx
        · exact key _ _ _ _ x hx
        · exact key _ _ _ _ x hx
    · cases e
  rw [if_neg n3] at e
  by_cases n4 : hd s ≠ hd t ∨ hd s = 0
  · rw [if_pos n4] at e; cases e
  rw [if_neg n4] at e
  by_cases n5 : hd s = 1
  · rw [if_pos n5] at e
    cases e
    intro x hx
    rcases List.mem_cons.mp hx with rfl | hx
    · simp only; omega
    · rw [List.mem_singleton] at hx; subst hx; simp only; omega
  rw [if_neg n5] at e
  split at e
  · cases e
    have h2 : hd s = 2 := by
      rcases ok_cases hs with rfl | ⟨k, hk, rfl⟩ | ⟨a, b, rfl, ha, hb⟩ | ⟨a, b, rfl, ha, hb⟩ | ⟨m, x, y, z, hm, rfl, h0, h1, h2⟩
      · rw [hd_top] at n4; omega
      · rw [hd_var] at n2; omega
      · rw [hd_fun] at n5; omega
      · rfl
      · exfalso
        rw [hd_rec] at n3 n4
        omega
    intro x hx
    rw [List.mem_singleton] at hx; subst hx
    unfold rst
    rw [if_neg n1, if_neg n2, if_pos (by omega)]
    simp
  · cases e
/-- not more than by weights -/
theorem trx_trw {z : Tsk} (h : tok z) : trx z ≤ trw z := by
  have key : ∀ (f : Nat) (z : Tsk), tok z → trf f z ≤ trw z := by
    intro f
    induction f with
    | zero => intro z _; exact Nat.zero_le _
    | succ f ih =>
      intro z h
      unfold trf
      cases e : stp z.1 z.2.1 z.2.2 with
      | none => exact Nat.zero_le _
      | some l =>
        obtain ⟨w1, w2⟩ := stp_w (Γ := z.1) (s := z.2.1) (t := z.2.2) h e
        have h1 := stp_r (Γ := z.1) (s := z.2.1) (t := z.2.2) h e
        have h2 : sumt (trf f) l ≤ rws l := by
          clear e w1 h1
          induction l with
          | nil => exact Nat.le_refl _
          | cons y l il =>
            show trf f y + sumt (trf f) l ≤ trw y + rws l
            have a1 := ih y (w2 y (List.mem_cons_self ..))
            have a2 := il (fun x hx => w2 x (List.mem_cons_of_mem _ hx))
            omega
        show rst z.2.1 z.2.2 + sumt (trf f) l ≤ trw z
        have h1 : rws l + rst z.2.1 z.2.2 ≤ trw z := h1
        omega
  exact key _ z h
/-- for a comparison in both directions -/
def tru (z : Tsk) : Nat := max (trx z) (trx (z.1, z.2.2, z.2.1))
theorem tru_1 (Γ : List Ty) (S T : Ty) : trx (Γ, S, T) ≤ tru (Γ, S, T) := Nat.le_max_left _ _
theorem tru_2 (Γ : List Ty) (S T : Ty) : trx (Γ, T, S) ≤ tru (Γ, S, T) := Nat.le_max_right _ _
theorem tru_trw {z : Tsk} (h : tok z) : tru z ≤ trw z := by
  refine Nat.max_le.mpr ⟨trx_trw h, ?_⟩
  have := trx_trw (z := (z.1, z.2.2, z.2.1)) ⟨h.1, h.2.2, h.2.1⟩
  unfold trw at this ⊢
  simp only at this
  omega
