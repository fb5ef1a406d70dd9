/-! THE MODEL: whole, what the first loop's sums say. -/
theorem wn_one : ∀ rs : List Rs, wn 1 rs = 1
  | [] => rfl
  | none :: rs => wn_one rs
  | some _ :: rs => wn_one rs
theorem wl_one : ∀ rs : List Rs, wl 1 rs = 1
  | [] => rfl
  | none :: rs => wl_one rs
  | some none :: rs => wl_one rs
  | some (some _) :: rs => wl_one rs
theorem wn_cases : ∀ rs : List Rs, (wn 0 rs = 1 ∧ none ∈ rs) ∨ (wn 0 rs = 0 ∧ none ∉ rs)
  | [] => Or.inr ⟨rfl, by simp⟩
  | none :: rs => Or.inl ⟨wn_one rs, List.mem_cons_self ..⟩
  | some r :: rs => by
    rcases wn_cases rs with ⟨h1, h2⟩ | ⟨h1, h2⟩
    · exact Or.inl ⟨h1, List.mem_cons_of_mem _ h2⟩
    · exact Or.inr ⟨h1, by simp [h2]⟩
theorem wl_cases : ∀ rs : List Rs, none ∉ rs → (wl 0 rs = 1 ∧ some none ∈ rs) ∨ (wl 0 rs = 0 ∧ ∃ ts : List Ty, rs = ts.map okT)
  | [], _ => Or.inr ⟨rfl, [], rfl⟩
  | none :: rs, h => absurd (List.mem_cons_self ..) h
  | some none :: rs, _ => Or.inl ⟨wl_one rs, List.mem_cons_self ..⟩
  | some (some t) :: rs, h => by
    rcases wl_cases rs (fun e => h (List.mem_cons_of_mem _ e)) with ⟨h1, h2⟩ | ⟨h1, ts, h2⟩
    · exact Or.inl ⟨h1, List.mem_cons_of_mem _ h2⟩
    · exact Or.inr ⟨h1, t :: ts, by rw [h2]; rfl⟩
theorem wz_sum : ∀ (ts : List Ty) (z : Int), wz z (ts.map okT) = z + (fla ts).length
  | [], z => by show z = z + ((0 : Nat) : Int); omega
  | t :: ts, z => by
    show wz (z + (flat t).length) (ts.map okT) = z + ((flat t ++ fla ts).length : Int)
    rw [wz_sum ts, List.length_append]
    omega
theorem wz_rng (N : pm_M) (u : Int) : ∀ (rs : List Rs) (f z : Int), RL N u f rs → 0 ≤ z → 0 ≤ wz z rs ∧ wz z rs ≤ z + 17 * rs.length
  | [], f, z, _, h => ⟨h, by show z ≤ z + 17 * ((0 : Nat) : Int); omega⟩
  | none :: rs, f, z, hr, h => by
    have := wz_rng N u rs (f + 1) z hr.2 h
    rw [List.length_cons]
    exact ⟨this.1, by show wz z rs ≤ _; omega⟩
  | some none :: rs, f, z, hr, h => by
    have := wz_rng N u rs (f + 1) z hr.2 h
    rw [List.length_cons]
    exact ⟨this.1, by show wz z rs ≤ _; omega⟩
  | some (some R) :: rs, f, z, hr, h => by
    obtain ⟨⟨-, -, -, a3, a4, -, -⟩, h2⟩ := hr
    have := wz_rng N u rs (f + 1) (z + (flat R).length) h2 (by omega)
    rw [List.length_cons]
    exact ⟨this.1, by show wz (z + (flat R).length) rs ≤ _; omega⟩
