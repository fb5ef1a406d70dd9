/-! THE MODEL: types, one node. -/
/-- all that stands while the nodes are typed -/
def TSt (N0 : pm_M) (a b : Nat) (T : Ty) (x : Int) : Prop := ND N0 a b T 24 T [] [] 0 ∧ a = (tfl T).length ∧ (a ≤ 60 ∧ b ≤ 60) ∧ (0 ≤ x ∧ x ≤ 12) ∧ (∀ k : Nat, k < b → PRk N0 T (68 + (b : Int)) x k) ∧ NXl 0 N0 a b 0 (tfl T) true ∧ prx 1 (tfl T) = true
section PmF15
variable {N0 N : pm_M} {a b : Nat} {T : Ty} {x : Int} {m : Nat}
theorem TI.nd (st : TSt N0 a b T x) (h : TI N0 a T x N m) {F : Nat} {t : Ty} {Γ : List Ty} {Δ : List (Nat × Ty × Nat)} {j : Nat} (n0 : ND N0 a b T F t Γ Δ j) : ND N a b T F t Γ Δ j := n0.same (fun q i q1 q2 _ _ => h.2.2.2.1 q i (by unfold WTy; omega)) (fun q i q1 q2 _ _ => h.2.2.2.1 q i (by unfold WTy; omega))
theorem TI.pr (st : TSt N0 a b T x) (h : TI N0 a T x N m) : ∀ k : Nat, k < b → PRk N T (68 + (b : Int)) x k := by
  obtain ⟨-, -, hab, hx, pr, -, -⟩ := st
  intro k hk
  exact (pr k hk).mv (by omega) (fun p i e => h.2.2.2.1 p i (by unfold WTy; omega)) (h.2.2.2.1 67 _ (by unfold WTy; omega)) (h.2.2.2.1 77 _ (by unfold WTy; omega)) (Int.le_refl _) (Int.le_refl _)
theorem TI.part (h : TI N0 a T x N m) {F : Nat} {y : Ty} {Γ : List Ty} {Δ : List (Nat × Ty × Nat)} {j : Nat} (n : ND N a b T F y Γ Δ j) (mj : m ≤ j) : (okp N j = true ↔ ∃ A, tyF F y Γ Δ = .inr A) ∧ ∀ A, tyF F y Γ Δ = .inr A → Row N (4 + (j : Int)) 0 (flat A) := by
  cases F with
  | zero => exact n.tw.elim
  | succ F =>
    have hl := tfl_len n.sp
    have le := n.le
    obtain ⟨g1, -, -, g4⟩ := h.2.2.2.2 j mj (by omega)
    obtain ⟨q1, -, -⟩ := g4 _ n.at0
    obtain ⟨s, ch, md, -⟩ := n.md
    have e59 := md.1.2.1
    have k5 := n.tw.1.1.1
    have q1 : RA N (j : Int) (toO (tyF (F + 1) y Γ Δ)) (N 78 (j : Int)) := q1
    have o : okp N j = decide (N 78 (j : Int) = 1) := by
      unfold okp
      rw [decide_eq_false (by omega)]
      exact Bool.false_or _
    rw [o, decide_eq_true_iff]
    cases e : tyF (F + 1) y Γ Δ with
    | inl p =>
      rw [e] at q1
      have q1 : N 78 (j : Int) = 0 := q1
      exact ⟨⟨fun z => by omega, fun ⟨A, hA⟩ => by cases hA⟩, fun A hA => by cases hA⟩
    | inr B =>
      rw [e] at q1
      obtain ⟨q2, q3⟩ : N 78 (j : Int) = 1 ∧ Row N (4 + (j : Int)) 0 (flat B) := q1
      refine ⟨⟨fun _ => ⟨B, rfl⟩, fun _ => q2⟩, fun A hA => ?_⟩
      injection hA with hA
      rw [← hA]; exact q3
def rt (z p : Nat) : List Nat := if z = 0 then [] else [p]
theorem rt_all {N : pm_M} {z p : Nat} : (rt z p).all (okp N) = true ↔ (z ≠ 0 → okp N p = true) := by
  unfold rt
  by_cases c : z = 0
  · rw [if_pos c]; exact ⟨fun _ h => absurd c h, fun _ => rfl⟩
  · rw [if_neg c, List.all_cons, List.all_nil, Bool.and_true]; exact ⟨fun h _ => h, fun h => h c⟩
/-- the parts of a node -/
theorem TI.kids (h : TI N0 a T x N (m + 1)) {F : Nat} {t : Ty} {Γ : List Ty} {Δ : List (Nat × Ty × Nat)} (n : ND N a b T (F + 1) t Γ Δ m) : ∃ ks, KD (m + 1) (tfl (nX t) ++ (tfl (nY t) ++ tfl (nZ t))) ks ∧ (ks.all (okp N) = true ↔ ktd F t Γ Δ) ∧ (ktd F t Γ Δ → SubT N F t Γ Δ m) := by
  obtain ⟨s, ch, md, tc⟩ := n.md
  have kr := n.tw.1.1
  have nl := n.tw.1.2.2.1
  obtain ⟨⟨m1, m2, m3, m40, m4⟩, m5, m6, m7, m8, m9, m10, m11, m12⟩ := md
  have nil0 : ∀ g, g < 3 → sk (nKd t) (nMk t) g = 0 → tfl (nP t g) = [] := fun g hg e => by rw [nl g hg e]; rfl
  -- the first part
  have hx : KD (m + 1) (tfl (nX t)) (rt (sk (nKd t) (nMk t) 0) (m + 1)) ∧ ((sk (nKd t) (nMk t) 0 ≠ 0 → okp N (m + 1) = true) ↔ (sk (nKd t) (nMk t) 0 = 1 → ∃ A, tyF F (nX t) Γ Δ = .inr A)) ∧ ∀ A, sk (nKd t) (nMk t) 0 = 1 → tyF F (nX t) Γ Δ = .inr A → Row N (4 + ((m + 1 : Nat) : Int)) 0 (flat A) := by
    rcases sk_any (m := nMk t) (g := 0) kr (by decide) with e | e | ⟨e, e2⟩
    · have q : tfl (nX t) = [] := nil0 0 (by decide) e
      rw [q, e]
      exact ⟨rfl, ⟨fun _ z => by omega, fun _ z => absurd rfl z⟩, fun _ z => by omega⟩
    · have q := h.part (n.x e) (Nat.le_refl _)
      rw [e]
      exact ⟨KD.one (n.x e).nx.2, ⟨fun z _ => q.1.mp (z (by decide)), fun z _ => q.1.mpr (z rfl)⟩, fun A _ hA => q.2 A hA⟩
    · have o : ok Γ.length (nX t) = true := by
        obtain ⟨-, -, w6, -, w8, -⟩ := n.tw
        rcases e2 with ⟨-, e2 | e2⟩ | ⟨e2, -⟩
        · exact (w6 e2).2.1
        · exact (w8 e2).1
        · cases e2
      have q := (m8 e).1.op (k := 0) (flat_pos o)
      rw [e, tfl_ty o]
      refine ⟨KD.one (prx_pre (m8 e).1.pos (ok_pre _ _ o)), ⟨fun _ z => by omega, fun _ _ => ?_⟩, fun _ z => by omega⟩
      unfold okp
      rw [decide_eq_true q.2]; rfl
  have hy : KD (m + 1 + (tfl (nX t)).length) (tfl (nY t)) (rt (sk (nKd t) (nMk t) 1) (m + 1 + (tfl (nX t)).length)) ∧ ((sk (nKd t) (nMk t) 1 ≠ 0 → okp N (m + 1 + (tfl (nX t)).length) = true) ↔ (sk (nKd t) (nMk t) 1 = 1 → ∃ A, yF F t Γ Δ = .inr A)) ∧ ∀ A, sk (nKd t) (nMk t) 1 = 1 → yF F t Γ Δ = .inr A → Row N (4 + ((m + 1 + (tfl (nX t)).length : Nat) : Int)) 0 (flat A) := by
    rcases sk_any (m := nMk t) (g := 1) kr (by decide) with e | e | ⟨e, e2⟩
    · have q : tfl (nY t) = [] := nil0 1 (by decide) e
      rw [q, e]
      exact ⟨rfl, ⟨fun _ z => by omega, fun _ z => absurd rfl z⟩, fun _ z => by omega⟩
    · have key : ∃ Γ' Δ', ND N a b T F (nY t) Γ' Δ' (m + 1 + (tfl (nX t)).length) ∧ yF F t Γ Δ = tyF F (nY t) Γ' Δ' := by
        unfold yF
        by_cases c6 : nKd t = 6
        · exact ⟨_, _, n.lam c6, by rw [if_pos c6]⟩
        by_cases c8 : nKd t = 8
        · exact ⟨_, _, n.all c8, by rw [if_neg c6, if_pos c8]⟩
        · exact ⟨_, _, n.y e (by omega), by rw [if_neg c6, if_neg c8]⟩
      obtain ⟨Γ', Δ', n', ey⟩ := key
      have q := h.part n' (by omega)
      rw [e, ey]
      exact ⟨KD.one n'.nx.2, ⟨fun z _ => q.1.mp (z (by decide)), fun z _ => q.1.mpr (z rfl)⟩, fun A _ hA => q.2 A hA⟩
    · have o : ok Γ.length (nY t) = true := by
        obtain ⟨-, -, -, -, -, w9, -, -, -⟩ := n.tw
        rcases e2 with ⟨e2, -⟩ | ⟨-, e2⟩
        · cases e2
        · exact (w9 e2).2.1
      have q := (m11 e).1.op (k := 0) (flat_pos o)
      rw [Nat.add_zero] at q
      rw [e, tfl_ty o]
      refine ⟨KD.one (prx_pre (m11 e).1.pos (ok_pre _ _ o)), ⟨fun _ z => by omega, fun _ _ => ?_⟩, fun _ z => by omega⟩
      unfold okp
      rw [decide_eq_true q.2]; rfl
  have hz : KD (m + 1 + (tfl (nX t)).length + (tfl (nY t)).length) (tfl (nZ t)) (rt (sk (nKd t) (nMk t) 2) (m + 1 + (tfl (nX t)).length + (tfl (nY t)).length)) ∧ ((sk (nKd t) (nMk t) 2 ≠ 0 → okp N (m + 1 + (tfl (nX t)).length + (tfl (nY t)).length) = true) ↔ (sk (nKd t) (nMk t) 2 = 1 → ∃ A, tyF F (nZ t) Γ Δ = .inr A)) ∧ ∀ A, sk (nKd t) (nMk t) 2 = 1 → tyF F (nZ t) Γ Δ = .inr A → Row N (4 + ((m + 1 + (tfl (nX t)).length + (tfl (nY t)).length : Nat) : Int)) 0 (flat A) := by
    rcases sk_any (m := nMk t) (g := 2) kr (by decide) with e | e | ⟨e, e2⟩
    · have q : tfl (nZ t) = [] := nil0 2 (by decide) e
      rw [q, e]
      exact ⟨rfl, ⟨fun _ z => by omega, fun _ z => absurd rfl z⟩, fun _ z => by omega⟩
    · have q := h.part (n.z e) (by omega)
      rw [e]
      exact ⟨KD.one (n.z e).nx.2, ⟨fun z _ => q.1.mp (z (by decide)), fun z _ => q.1.mpr (z rfl)⟩, fun A _ hA => q.2 A hA⟩
    · rcases e2 with ⟨e2, -⟩ | ⟨e2, -⟩ <;> cases e2
  refine ⟨_, hx.1.app (hy.1.app hz.1), ?_, fun hk => ⟨fun e => ?_, fun e => ?_, fun e => ?_⟩⟩
  · rw [List.all_append, List.all_append, Bool.and_eq_true, Bool.and_eq_true, rt_all, rt_all, rt_all, hx.2.1, hy.2.1, hz.2.1]
    exact Iff.rfl
  · obtain ⟨A, hA⟩ := hk.1 e
    exact ⟨A, hA, hx.2.2 A e hA⟩
  · obtain ⟨A, hA⟩ := hk.2.1 e
    exact ⟨A, hA, hy.2.2 A e hA⟩
  · obtain ⟨A, hA⟩ := hk.2.2 e
    exact ⟨A, hA, hz.2.2 A e hA⟩
end PmF15
