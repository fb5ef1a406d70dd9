/-! A BOUND WITH A SCHEME INSIDE THAT OPERATIONS REACH, no binder before, no other scheme with that very bound: the bound may be replaced by a small one. -/
/-- n schemes, one in the other -/
def Dn9 : Nat → Ty
  | 0 => tTop
  | n + 1 => tAll tTop (Dn9 n)
theorem Dn9_ok : ∀ (n d : Nat), ok d (Dn9 n) = true
  | 0, _ => rfl
  | n + 1, d => ok_all.mpr ⟨rfl, Dn9_ok n (d + 1)⟩
theorem Dn9_lft (k j : Nat) : ∀ n : Nat, lft k j (Dn9 n) = Dn9 n
  | 0 => lft_top _ _
  | n + 1 => by
    show lft k j (tAll tTop (Dn9 n)) = tAll tTop (Dn9 n)
    rw [lft_all, lft_top, Dn9_lft k j n]
theorem Dn9_pmz : ∀ (n : Nat) (Γ : List Ty), pmz (qu 1) true (oq (qu 1) Γ) (Dn9 n) = n
  | 0, _ => pmz_top _
  | n + 1, Γ => by
    have p1 : pmz (qu 1) true (oq (qu 1) Γ) (tAll tTop (Dn9 n)) = 1 + pmz (qu 1) true (oq (qu 1) (tTop :: Γ)) (Dn9 n) := pmz_all _ _ _
    show pmz (qu 1) true (oq (qu 1) Γ) (tAll tTop (Dn9 n)) = n + 1
    rw [p1, Dn9_pmz n]
    omega
theorem Dn9_urm (b : Bool) : ∀ (n : Nat) (Γ : List Ty), 3 * n ≤ urm b 1 0 Γ (Dn9 n)
  | 0, _ => Nat.zero_le _
  | n + 1, Γ => by
    have p1 : urm b 1 0 Γ (tAll tTop (Dn9 n)) = (2 + 1) + urm b 1 0 (tTop :: Γ) (Dn9 n) := mrz_all _ _ _ _
    have := Dn9_urm b n (tTop :: Γ)
    show 3 * (n + 1) ≤ urm b 1 0 Γ (tAll tTop (Dn9 n))
    omega
theorem Dn9_mz (b : Bool) : ∀ (n : Nat) (Γ : List Ty), mz b 1 Γ (Dn9 n) = 3 * n
  | 0, _ => nz_top _
  | n + 1, Γ => by
    show mz b 1 Γ (tAll tTop (Dn9 n)) = 3 * (n + 1)
    rw [mz_all, Dn9_mz b n]
    omega
theorem Dn9_gz : ∀ (n : Nat) (Γ : List Ty), gz Γ (Dn9 n) = n + 1
  | 0, _ => gz_top
  | n + 1, Γ => by
    show gz Γ (tAll tTop (Dn9 n)) = n + 1 + 1
    rw [gz_all, Dn9_gz n]
    omega
/-- the scheme stands in it, where operations reach it, so deep -/
def SPd (σ : Ty) : Nat → Ty → Prop
  | 0, b => b = σ
  | d + 1, b => (∃ a c, b = tFun a c ∧ SPd σ d c) ∨ ∃ m x y z, m < 8 ∧ b = tRec m x y z ∧ ((bit m 0 = true ∧ SPd σ d x) ∨ (bit m 1 = true ∧ SPd σ d y) ∨ (bit m 2 = true ∧ SPd σ d z))
theorem rch_ng : ∀ m, m < 8 → 2 ≤ rch m ∧ ngc (8 + m) ≤ rch m := by decide
theorem rch_three : ∀ m, m < 8 → ∀ i, i < 3 → bit m i = true → 3 ≤ rch m := by decide
/-- what is short and closed -/
theorem small_cl {B σ : Ty} (n : Nat) (h : Nat → Nat) (ω : List Nat) : ∀ (f : Nat) (a : Ty), (flat a).length ≤ f → ok 0 a = true → tch a ≤ 5 → (∀ d, pmz (qu 1) d ω (lft 0 n a) ≤ (tch a + 1) / 3) ∧ (nz 0 (fun _ => 1 + 1) (2 + 1) h ω (lft 0 n a) ≤ tch a ∧ nz 1 ngc 1 (fun x => x) ω (lft 0 n a) ≤ tch a) ∧ kv9 B σ 0 a = true
  | 0, a, hf, o, _ => by have := flat_pos o; omega
  | f + 1, a, hf, o, h5 => by
    rcases ok_cases o with rfl | ⟨j, hj, rfl⟩ | ⟨x, y, rfl, hx, hy⟩ | ⟨x, y, rfl, hx, hy⟩ | ⟨c, x, y, z, hm, rfl, h0, h1, h2⟩
    · rw [lft_top, nz_top, nz_top]
      have : tch tTop = 1 := rfl
      refine ⟨fun d => ?_, ⟨by omega, by omega⟩, kv9_top _⟩
      rw [pmz_top]
      cases d
      · show 0 ≤ _; omega
      · show 0 ≤ _; omega
    · omega
    · rw [flat_fun, List.length_cons, List.length_append] at hf
      rw [tch_fun] at h5 ⊢
      obtain ⟨a0, ⟨a1, a2⟩, a3⟩ := small_cl n h ω f x (by omega) hx (by omega)
      obtain ⟨b0, ⟨b1, b2⟩, b3⟩ := small_cl n h ω f y (by omega) hy (by omega)
      have tx := tch_pos hx
      have ty := tch_pos hy
      rw [lft_fun, nz_fun, nz_fun]
      have q : ngc 1 ≤ 3 := by decide
      refine ⟨fun d => ?_, ⟨by omega, by omega⟩, kv9_fun.mpr ⟨a3, b3⟩⟩
      rw [pmz_fun]
      have c1 := a0 (!d)
      have c2 := b0 d
      have c3 : qu 1 d 1 ≤ 1 := by cases d <;> decide
      omega
    · rw [tch_all] at h5
      have := tch_pos hx
      have := tch_pos hy
      omega
    · rw [flat_rec, List.length_cons, List.length_append, List.length_append] at hf
      rw [tch_rec] at h5 ⊢
      obtain ⟨r1, r2⟩ := rch_ng c hm
      have key : ∀ (i : Nat) (p : Ty), (flat p).length ≤ f → okl 0 c i p → tch p ≤ 5 → (∀ d, pmz (qu 1) d ω (lft 0 n p) ≤ (tch p + 1) / 3) ∧ (nz 0 (fun _ => 1 + 1) (2 + 1) h ω (lft 0 n p) ≤ tch p ∧ nz 1 ngc 1 (fun x => x) ω (lft 0 n p) ≤ tch p) ∧ kv9 B σ 0 p = true := by
        intro i p hp ho h5
        unfold okl at ho
        by_cases hb : bit c i = true
        · rw [if_pos hb] at ho
          exact small_cl n h ω f p hp ho h5
        · rw [if_neg hb] at ho
          subst ho
          have e1 : lft 0 n (.nil : Ty) = .nil := rfl
          have e2 : tch (.nil : Ty) = 0 := rfl
          rw [e1, e2]
          exact ⟨fun d => by rw [pmz_nil]; exact Nat.zero_le _, ⟨Nat.le_of_eq (by simp [nz]), Nat.le_of_eq (by simp [nz])⟩, kv9_nil _⟩
      obtain ⟨a0, ⟨a1, a2⟩, a3⟩ := key 0 x (by omega) h0 (by omega)
      obtain ⟨b0, ⟨b1, b2⟩, b3⟩ := key 1 y (by omega) h1 (by omega)
      obtain ⟨c0, ⟨c1, c2⟩, c3⟩ := key 2 z (by omega) h2 (by omega)
      rw [lft_rec hm, nz_rec, nz_rec]
      refine ⟨fun d => ?_, ⟨by omega, by omega⟩, kv9_rec.mpr ⟨a3, b3, c3⟩⟩
      rw [pmz_rec]
      have d1 := a0 d
      have d2 := b0 d
      have d3 := c0 d
      have d4 : qu 1 d 1 + qu 1 d 5 * mis c ≤ 1 := by
        have e5 : qu 1 d 5 = 0 := by cases d <;> rfl
        have e1 : qu 1 d 1 ≤ 1 := by cases d <;> decide
        rw [e5, Nat.zero_mul]
        omega
      have e1 : ∀ i u, okl 0 c i u → bit c i = false → tch u = 0 := by
        intro i u ou hb
        unfold okl at ou
        rw [if_neg (by rw [hb]; decide)] at ou
        rw [ou]; rfl
      have r5 : 5 ≤ rch c ∨ (rch c ≤ 3 ∧ ((tch x = 0 ∧ tch y = 0) ∨ (tch x = 0 ∧ tch z = 0) ∨ (tch y = 0 ∧ tch z = 0))) := by
        rcases (show c = 0 ∨ c = 1 ∨ c = 2 ∨ c = 3 ∨ c = 4 ∨ c = 5 ∨ c = 6 ∨ c = 7 by omega) with rfl | rfl | rfl | rfl | rfl | rfl | rfl | rfl
        · exact Or.inr ⟨by decide, Or.inl ⟨e1 0 x h0 rfl, e1 1 y h1 rfl⟩⟩
        · exact Or.inr ⟨by decide, Or.inr (Or.inr ⟨e1 1 y h1 rfl, e1 2 z h2 rfl⟩)⟩
        · exact Or.inr ⟨by decide, Or.inr (Or.inl ⟨e1 0 x h0 rfl, e1 2 z h2 rfl⟩)⟩
        · exact Or.inl (by decide)
        · exact Or.inr ⟨by decide, Or.inl ⟨e1 0 x h0 rfl, e1 1 y h1 rfl⟩⟩
        · exact Or.inl (by decide)
        · exact Or.inl (by decide)
        · exact Or.inl (by decide)
      have r0 : rch c = 2 → tch x = 0 ∧ tch y = 0 ∧ tch z = 0 := by
        intro h
        rcases (show c = 0 ∨ c = 1 ∨ c = 2 ∨ c = 3 ∨ c = 4 ∨ c = 5 ∨ c = 6 ∨ c = 7 by omega) with rfl | rfl | rfl | rfl | rfl | rfl | rfl | rfl
        · exact ⟨e1 0 x h0 rfl, e1 1 y h1 rfl, e1 2 z h2 rfl⟩
        all_goals exact absurd h (by decide)
      omega
section PmIl
variable {B C β : Ty} {l : Nat} {Δ : List Ty}
/-- what stands around it -/
theorem small_hw {a : Ty} (hc : okc (cxs Δ [] β)) (o : ok 0 a = true) (h5 : tch a ≤ 5) : HW9 (cxs Δ [] β) (upb [] Δ a) ((tch a + 1) / 3) (tch a) (tch a) := by
  have ou : ok (cxs Δ [] β).length (upb [] Δ a) = true := by
    have q := ok_lft 0 (Δ.length + 1) a 0 o
    rw [cxs_len]
    have e : 0 + (Δ.length + 1) + 0 = Δ.length + (([] : List Ty).length + 1) := by show 0 + (Δ.length + 1) + 0 = Δ.length + (0 + 1); omega
    rw [e] at q
    exact q
  have tp := tch_pos o
  refine HW9_nat hc ou (fun d => ?_) (fun b => ?_) ?_ tp (by omega)
  · exact (small_cl (B := tTop) (σ := tTop) (Δ.length + 1) (fun x => x) _ _ a (Nat.le_refl _) o h5).1 d
  · exact (small_cl (B := tTop) (σ := tTop) (Δ.length + 1) _ _ _ a (Nat.le_refl _) o h5).2.1.1
  · exact (small_cl (B := tTop) (σ := tTop) (Δ.length + 1) (fun x => x) _ _ a (Nat.le_refl _) o h5).2.1.2
theorem SPd_ch {σ : Ty} (oσ : ok 0 σ = true) : ∀ (d : Nat) (b : Ty), ok 0 b = true → SPd σ d b → hd b < 16 ∧ tch σ + 3 * d ≤ tch b
  | 0, b, o, h => by
    have h : b = σ := h
    subst h
    refine ⟨?_, Nat.le_refl _⟩
    by_cases v : 16 ≤ hd b
    · obtain ⟨k, hk, -⟩ := hd_is_var o v
      omega
    · omega
  | d + 1, b, o, h => by
    rcases h with ⟨a, c, rfl, h⟩ | ⟨m, x, y, z, hm, rfl, h⟩
    · obtain ⟨-, q⟩ := SPd_ch oσ d c (ok_fun.mp o).2 h
      rw [hd_fun, tch_fun]
      exact ⟨by omega, by omega⟩
    · have oo := (ok_rec hm).mp o
      rw [hd_rec, tch_rec]
      rcases h with ⟨b1, h⟩ | ⟨b1, h⟩ | ⟨b1, h⟩
      · obtain ⟨-, q⟩ := SPd_ch oσ d x (okl_on oo.1 (bit_iff.mp b1)) h
        have := rch_three m hm 0 (by decide) b1
        exact ⟨by omega, by omega⟩
      · obtain ⟨-, q⟩ := SPd_ch oσ d y (okl_on oo.2.1 (bit_iff.mp b1)) h
        have := rch_three m hm 1 (by decide) b1
        exact ⟨by omega, by omega⟩
      · obtain ⟨-, q⟩ := SPd_ch oσ d z (okl_on oo.2.2 (bit_iff.mp b1)) h
        have := rch_three m hm 2 (by decide) b1
        exact ⟨by omega, by omega⟩
theorem SPd_03 {σ : Ty} (oσ : ok 0 σ = true) {d : Nat} {b : Ty} (o : ok 0 b = true) (h : SPd σ d b) : tch b = tch σ ∨ tch σ + 3 ≤ tch b := by
  cases d with
  | zero =>
    have h : b = σ := h
    exact Or.inl (by rw [h])
  | succ d =>
    have := (SPd_ch oσ (d + 1) b o h).2
    exact Or.inr (by omega)
theorem rec_5 {m i j : Nat} {u : Ty} (hm : m < 8) (hi : i < 3) (hj : j < 3) (ne : i ≠ j) (b1 : bit m i = true) (ou : okl 0 m j u) : tch u = 0 ∨ 5 ≤ rch m := by
  unfold okl at ou
  by_cases b : bit m j = true
  · exact Or.inr (rch_ij m hm i hi j hj ne b1 b)
  · rw [if_neg b] at ou
    rw [ou]; exact Or.inl rfl
/-- what is closed and holds no scheme with that bound -/
theorem Ky9.cls {a : Ty} (k : Ky9 B tTop β l Δ tTop) (o : ok 0 a = true) (kv : kv9 B tTop 0 a = true) : Ky9 B tTop β l Δ (upb [] Δ a) := by
  have le : 0 + (Δ.length + 1) = (cxs Δ [] β).length := by rw [cxs_len]; show 0 + (Δ.length + 1) = Δ.length + (0 + 1); omega
  refine k.part ?_ ?_ ?_
  · have q := ok_lft 0 (Δ.length + 1) a 0 o
    rw [Nat.add_zero, le] at q
    exact q
  · refine gq_lft (by decide) (show l ≤ 0 + (Δ.length + 1) by rw [le]; exact k.1.2) _ a 0 (Nat.le_refl _) o ?_
    show gq 5 0 (min l 0) a = true
    rw [Nat.min_eq_right (Nat.zero_le _)]
    exact gq5 _ a 0 (Nat.le_refl _) o (Nat.le_refl _) (fun i hi => by omega)
  · have q := kv9_lft (k := 0) (n := Δ.length + 1) _ a 0 (Nat.le_refl _) (Nat.le_refl _) o kv
    rw [le] at q
    exact q
/-- the body of the scheme -/
theorem Ky9.bdy (k : Ky9 B tTop β l Δ tTop) (oσ : ok 0 (tAll B C) = true) (nC : sN B 0 1 C = false) : Ky9 B tTop β l (upb [] Δ B :: Δ) (upb [] Δ C) := by
  have oB := (ok_all.mp oσ).1
  have oC : ok 1 C = true := (ok_all.mp oσ).2
  have kB := k.cls oB (kv9_no _ B 0 (Nat.le_refl _) oB (sN_short _ B _ (Nat.le_refl _) oB (Nat.le_refl _)))
  have le : (cxs Δ [] β).length + 1 = 1 + (Δ.length + 1) := by rw [cxs_len]; show Δ.length + (0 + 1) + 1 = 1 + (Δ.length + 1); omega
  refine k.ext kB.2.2.2.2.1 ?_ kB.2.2.2.2.2.1 ?_ kB.2.2.2.2.2.2 ?_
  · have q := ok_lft 0 (Δ.length + 1) C 1 (by rw [Nat.zero_add]; exact oC)
    rw [show 0 + (Δ.length + 1) + 1 = (cxs Δ [] β).length + 1 by omega] at q
    exact q
  · refine gq_lft (by decide) (show l ≤ 0 + (Δ.length + 1) by have := k.1.2; omega) _ C 1 (Nat.le_refl _) oC ?_
    show gq 5 0 (min l 0) C = true
    rw [Nat.min_eq_right (Nat.zero_le _)]
    exact gq5 _ C 1 (Nat.le_refl _) oC (by omega) (fun i hi => Or.inr (Nat.zero_le _))
  · have q := kv9_lft (B := B) (σ := tTop) (k := 0) (n := Δ.length + 1) _ C 1 (Nat.le_refl _) (Nat.zero_le _) oC (kv9_no _ C 1 (Nat.le_refl _) oC nC)
    rw [← le] at q
    exact q
/-- old types: no scheme with that bound, or what stands around the scheme, less deep -/
def Kd9 (B C β : Ty) (l d : Nat) (Δ : List Ty) (t : Ty) : Prop := Ky9 B tTop β l Δ t ∨ (Ky9 B tTop β l Δ tTop ∧ ∃ d' b, d' < d ∧ SPd (tAll B C) d' b ∧ ok 0 b = true ∧ tch b ≤ tch (tAll B C) + 8 ∧ t = upb [] Δ b)
/-- what stands in it -/
theorem sp_kids (oσ : ok 0 (tAll B C) = true) (nC : sN B 0 1 C = false) (k : Ky9 B tTop β l Δ tTop) {d : Nat} {b : Ty} (ob : ok 0 b = true) (sp : SPd (tAll B C) d b) (h8 : tch b ≤ tch (tAll B C) + 8) : (∀ a c, upb [] Δ b = tFun a c → Kd9 B C β l d Δ a ∧ Kd9 B C β l d Δ c) ∧ (∀ m x y z, m < 8 → upb [] Δ b = tRec m x y z → (bit m 0 = true → Kd9 B C β l d Δ x) ∧ (bit m 1 = true → Kd9 B C β l d Δ y) ∧ (bit m 2 = true → Kd9 B C β l d Δ z)) ∧ (∀ a c, upb [] Δ b = tAll a c → Ky9 B tTop β l (a :: Δ) c) := by
  have small : ∀ u : Ty, ok 0 u = true → tch u ≤ 5 → Kd9 B C β l d Δ (upb [] Δ u) := fun u ou h5 => Or.inl (k.cls ou (small_cl 0 (fun x => x) [] _ u (Nat.le_refl _) ou h5).2.2)
  cases d with
  | zero =>
    have sp : b = tAll B C := sp
    subst sp
    refine ⟨fun a c e => ?_, fun m x y z hm e => ?_, fun a c e => ?_⟩
    · rw [upb_all] at e
      have := congrArg hd e
      rw [hd_all, hd_fun] at this
      omega
    · rw [upb_all] at e
      have := congrArg hd e
      rw [hd_all, hd_rec] at this
      omega
    · rw [upb_all] at e
      obtain ⟨rfl, rfl⟩ := all_inj e
      exact k.bdy oσ nC
  | succ d =>
    rcases sp with ⟨a0, c0, rfl, sp⟩ | ⟨m0, x0, y0, z0, hm0, rfl, sp⟩
    · have e0 : upb [] Δ (tFun a0 c0) = tFun (upb [] Δ a0) (upb [] Δ c0) := lft_fun _ _ _ _
      have oo := ok_fun.mp ob
      obtain ⟨-, q⟩ := SPd_ch oσ d c0 oo.2 sp
      rw [tch_fun] at h8
      refine ⟨fun a c e => ?_, fun m x y z hm e => ?_, fun a c e => ?_⟩
      · rw [e0] at e
        obtain ⟨rfl, rfl⟩ := fun_inj e
        exact ⟨small a0 oo.1 (by omega), Or.inr ⟨k, d, c0, by omega, sp, oo.2, by omega, rfl⟩⟩
      · rw [e0] at e
        have := congrArg hd e
        rw [hd_fun, hd_rec] at this
        omega
      · rw [e0] at e
        have := congrArg hd e
        rw [hd_fun, hd_all] at this
        omega
    · have e0 : upb [] Δ (tRec m0 x0 y0 z0) = tRec m0 (upb [] Δ x0) (upb [] Δ y0) (upb [] Δ z0) := lft_rec hm0 _ _ _ _ _
      have oo := (ok_rec hm0).mp ob
      rw [tch_rec] at h8
      refine ⟨fun a c e => ?_, fun m x y z hm e => ?_, fun a c e => ?_⟩
      · rw [e0] at e
        have := congrArg hd e
        rw [hd_rec, hd_fun] at this
        omega
      · rw [e0] at e
        obtain ⟨rfl, rfl, rfl, rfl⟩ := rec_inj e
        have deep : ∀ u : Ty, ok 0 u = true → SPd (tAll B C) d u → tch u ≤ tch (tAll B C) + 8 → Kd9 B C β l (d + 1) Δ (upb [] Δ u) := fun u ou su h => Or.inr ⟨k, d, u, by omega, su, ou, h, rfl⟩
        rcases sp with ⟨b1, sp⟩ | ⟨b1, sp⟩ | ⟨b1, sp⟩
        · have ox := okl_on oo.1 (bit_iff.mp b1)
          obtain ⟨-, q⟩ := SPd_ch oσ d x0 ox sp
          have r3 := rch_three m0 hm0 0 (by decide) b1
          exact ⟨fun _ => deep x0 ox sp (by omega), fun b2 => small y0 (okl_on oo.2.1 (bit_iff.mp b2)) (by omega), fun b2 => small z0 (okl_on oo.2.2 (bit_iff.mp b2)) (by omega)⟩
        · have oy := okl_on oo.2.1 (bit_iff.mp b1)
          obtain ⟨-, q⟩ := SPd_ch oσ d y0 oy sp
          have r3 := rch_three m0 hm0 1 (by decide) b1
          exact ⟨fun b2 => small x0 (okl_on oo.1 (bit_iff.mp b2)) (by omega), fun _ => deep y0 oy sp (by omega), fun b2 => small z0 (okl_on oo.2.2 (bit_iff.mp b2)) (by omega)⟩
        · have oz := okl_on oo.2.2 (bit_iff.mp b1)
          obtain ⟨-, q⟩ := SPd_ch oσ d z0 oz sp
          have r3 := rch_three m0 hm0 2 (by decide) b1
          exact ⟨fun b2 => small x0 (okl_on oo.1 (bit_iff.mp b2)) (by omega), fun b2 => small y0 (okl_on oo.2.1 (bit_iff.mp b2)) (by omega), fun _ => deep z0 oz sp (by omega)⟩
      · rw [e0] at e
        have := congrArg hd e
        rw [hd_rec, hd_all] at this
        omega
theorem Kd9.mono {d e : Nat} {t : Ty} (h : d ≤ e) (k : Kd9 B C β l d Δ t) : Kd9 B C β l e Δ t := by
  rcases k with k | ⟨k, d', b, h1, h2⟩
  · exact Or.inl k
  · exact Or.inr ⟨k, d', b, by omega, h2⟩
/-- parts of old types are old, less deep -/
theorem Kd9.less (oσ : ok 0 (tAll B C) = true) (nC : sN B 0 1 C = false) {d : Nat} {t : Ty} (k : Kd9 B C β l (d + 1) Δ t) : (∀ a c, t = tFun a c → Kd9 B C β l d Δ a ∧ Kd9 B C β l d Δ c) ∧ (∀ m x y z, m < 8 → t = tRec m x y z → (bit m 0 = true → Kd9 B C β l d Δ x) ∧ (bit m 1 = true → Kd9 B C β l d Δ y) ∧ (bit m 2 = true → Kd9 B C β l d Δ z)) := by
  rcases k with k | ⟨k, d', b, h1, sp, ob, h8, rfl⟩
  · have cl := Ky9.cl Δ t k
    refine ⟨fun a c e => ⟨Or.inl (cl.1 a c e).1, Or.inl (cl.1 a c e).2⟩, fun m x y z hm e => ?_⟩
    obtain ⟨r0, r1, r2⟩ := cl.2.1 m x y z hm e
    exact ⟨fun q => Or.inl (r0 q), fun q => Or.inl (r1 q), fun q => Or.inl (r2 q)⟩
  · obtain ⟨k1, k2, -⟩ := sp_kids oσ nC k ob sp h8
    refine ⟨fun a c e => ⟨(k1 a c e).1.mono (by omega), (k1 a c e).2.mono (by omega)⟩, fun m x y z hm e => ?_⟩
    obtain ⟨r0, r1, r2⟩ := k2 m x y z hm e
    exact ⟨fun q => (r0 q).mono (by omega), fun q => (r1 q).mono (by omega), fun q => (r2 q).mono (by omega)⟩
end PmIl
section PmIp
variable {B C β : Ty} {l : Nat}
theorem Kd9.cl (oσ : ok 0 (tAll B C) = true) (nC : sN B 0 1 C = false) {d : Nat} : KCy β [] (Kd9 B C β l d) := by
  intro Δ t k
  have up := k.mono (Nat.le_succ d)
  obtain ⟨a1, a2⟩ := up.less oσ nC
  refine ⟨a1, a2, ?_, ?_⟩
  · intro a c e
    rcases k with k | ⟨k, d', b, h1, sp, ob, h8, e2⟩
    · exact Or.inl ((Ky9.cl Δ t k).2.2.1 a c e)
    · exact Or.inl ((sp_kids oσ nC k ob sp h8).2.2 a c (by rw [← e2]; exact e))
  · intro j e hj
    rcases k with k | ⟨k, d', b, h1, sp, ob, h8, e2⟩
    · have q := (Ky9.cl Δ t k).2.2.2 j e hj
      exact ⟨q.1, Or.inl q.2⟩
    · exfalso
      obtain ⟨n16, -⟩ := SPd_ch oσ d' b ob sp
      have q := hd_lft_lo 0 (Δ.length + 1) b n16
      have q2 : hd (upb [] Δ b) < 16 := q
      rw [← e2, e, hd_var] at q2
      omega
/-- the whole bound against what is old -/
theorem sp_hn {Δ : List Ty} (oσ : ok 0 (tAll B C) = true) (nC : sN B 0 1 C = false) (hc : okc (cxs Δ [] β)) : ∀ (d : Nat) (b : Ty), ok 0 b = true → SPd (tAll B C) d b → tch b ≤ tch (tAll B C) + 8 → HN9 β [] (Kd9 B C β l d) Δ (upb [] Δ b) ((tch b - tch (tAll B C) + 1) / 3) (1 + (tch b - tch (tAll B C) - 1)) (1 + (tch b - tch (tAll B C) - 2)) := by
  intro d
  induction d with
  | zero =>
    intro b o h h8
    have h : b = tAll B C := h
    subst h
    rw [Nat.sub_self, upb_all]
    show HN9 β [] (Kd9 B C β l 0) Δ (tAll (upb [] Δ B) (upb [] Δ C)) 0 1 1
    refine HN9_all (fun f k => ?_)
    rcases k with k | ⟨-, d', -, h1, -⟩
    · obtain ⟨-, -, -, -, ot, -, kt⟩ := k
      have e1 : (cxs Δ [] β).length = (cxs Δ [] (tAll B tTop)).length := cxs_ll β (tAll B tTop)
      have q := (kv9_all.mp kt).1 (by rw [e1]; exact tqN_up (B := B) (Γ0 := []) (Δ := Δ) (C := tTop))
      unfold tqN at q
      rw [decide_eq_true_iff] at q
      have q := congrArg List.length q
      rw [List.length_map, List.length_map, flat_all, List.length_cons, List.length_append] at q
      have e2 : (flat tTop).length = 1 := rfl
      have p1 := flat_pos (ok_all.mp ot).1
      omega
    · omega
  | succ d ih =>
    intro b o h h8
    have K : KCy β [] (Kd9 B C β l d) := Kd9.cl oσ nC
    rcases h with ⟨a, c, rfl, h⟩ | ⟨m, x, y, z, hm, rfl, h⟩
    · have oo := ok_fun.mp o
      obtain ⟨n16, q⟩ := SPd_ch oσ d c oo.2 h
      rw [tch_fun] at h8 ⊢
      have z3 := SPd_03 oσ oo.2 h
      have tp := tch_pos oo.1
      have h1 := small_hw (β := β) (Δ := Δ) hc oo.1 (by omega)
      have h2 := ih c oo.2 h (by omega)
      have nv : ¬ 16 ≤ hd (upb [] Δ c) := by
        have := hd_lft_lo 0 (Δ.length + 1) c n16
        show ¬ 16 ≤ hd (lft 0 (Δ.length + 1) c)
        omega
      have h3 := HN9_fun (Kp := Kd9 B C β l (d + 1)) (fun t k a b e => ((k.less oσ nC).1 a b e).2) h1 (h2.ha K nv)
      have e : upb [] Δ (tFun a c) = tFun (upb [] Δ a) (upb [] Δ c) := lft_fun _ _ _ _
      rw [e]
      refine ⟨⟨by omega, by omega⟩, fun t k tb nt => ?_⟩
      obtain ⟨⟨a1, a2⟩, ⟨a3, a4⟩, a5, a6⟩ := h3.2 t k tb nt
      exact ⟨⟨by omega, by omega⟩, ⟨by omega, by omega⟩, by omega, by omega⟩
    · have oo := (ok_rec hm).mp o
      rw [tch_rec] at h8 ⊢
      have e : upb [] Δ (tRec m x y z) = tRec m (upb [] Δ x) (upb [] Δ y) (upb [] Δ z) := lft_rec hm _ _ _ _ _
      rw [e]
      have oth : ∀ (i : Nat) (u : Ty), okl 0 m i u → tch u ≤ 5 → bit m i = true → HA9 β [] (Kd9 B C β l d) Δ (upb [] Δ u) ((tch u + 1) / 3) (tch u) (tch u) := fun i u ou h5 b => (small_hw (β := β) (Δ := Δ) hc (okl_on ou (bit_iff.mp b)) h5).ha
      have spi : ∀ (u : Ty), ok 0 u = true → SPd (tAll B C) d u → tch u ≤ tch (tAll B C) + 8 → HA9 β [] (Kd9 B C β l d) Δ (upb [] Δ u) ((tch u - tch (tAll B C) + 1) / 3 + 1) (1 + (tch u - tch (tAll B C) - 1) + 1) (1 + (tch u - tch (tAll B C) - 2)) := fun u ou hu h8 => by
        obtain ⟨n16, -⟩ := SPd_ch oσ d u ou hu
        refine (ih u ou hu h8).ha K ?_
        have := hd_lft_lo 0 (Δ.length + 1) u n16
        show ¬ 16 ≤ hd (lft 0 (Δ.length + 1) u)
        omega
      have kr : ∀ t, Kd9 B C β l (d + 1) Δ t → ∀ m x y z, m < 8 → t = tRec m x y z → (bit m 0 = true → Kd9 B C β l d Δ x) ∧ (bit m 1 = true → Kd9 B C β l d Δ y) ∧ (bit m 2 = true → Kd9 B C β l d Δ z) := fun t k => (k.less oσ nC).2
      rcases h with ⟨b1, h⟩ | ⟨b1, h⟩ | ⟨b1, h⟩
      · have ox := okl_on oo.1 (bit_iff.mp b1)
        obtain ⟨-, q⟩ := SPd_ch oσ d x ox h
        have r3 := rch_three m hm 0 (by decide) b1
        have z3 := SPd_03 oσ ox h
        have w1 := rec_5 hm (show 0 < 3 by decide) (show 1 < 3 by decide) (by decide) b1 oo.2.1
        have w2 := rec_5 hm (show 0 < 3 by decide) (show 2 < 3 by decide) (by decide) b1 oo.2.2
        have h3 := HN9_rec kr hm (fun _ => spi x ox h (by omega)) (oth 1 y oo.2.1 (by omega)) (oth 2 z oo.2.2 (by omega)) (by omega) (by omega) (by omega)
        refine ⟨⟨by omega, by omega⟩, fun t k tb nt => ?_⟩
        obtain ⟨⟨a1, a2⟩, ⟨a3, a4⟩, a5, a6⟩ := h3.2 t k tb nt
        exact ⟨⟨by omega, by omega⟩, ⟨by omega, by omega⟩, by omega, by omega⟩
      · have oy := okl_on oo.2.1 (bit_iff.mp b1)
        obtain ⟨-, q⟩ := SPd_ch oσ d y oy h
        have r3 := rch_three m hm 1 (by decide) b1
        have z3 := SPd_03 oσ oy h
        have w1 := rec_5 hm (show 1 < 3 by decide) (show 0 < 3 by decide) (by decide) b1 oo.1
        have w2 := rec_5 hm (show 1 < 3 by decide) (show 2 < 3 by decide) (by decide) b1 oo.2.2
        have h3 := HN9_rec kr hm (oth 0 x oo.1 (by omega)) (fun _ => spi y oy h (by omega)) (oth 2 z oo.2.2 (by omega)) (by omega) (by omega) (by omega)
        refine ⟨⟨by omega, by omega⟩, fun t k tb nt => ?_⟩
        obtain ⟨⟨a1, a2⟩, ⟨a3, a4⟩, a5, a6⟩ := h3.2 t k tb nt
        exact ⟨⟨by omega, by omega⟩, ⟨by omega, by omega⟩, by omega, by omega⟩
      · have oz := okl_on oo.2.2 (bit_iff.mp b1)
        obtain ⟨-, q⟩ := SPd_ch oσ d z oz h
        have r3 := rch_three m hm 2 (by decide) b1
        have z3 := SPd_03 oσ oz h
        have w1 := rec_5 hm (show 2 < 3 by decide) (show 0 < 3 by decide) (by decide) b1 oo.1
        have w2 := rec_5 hm (show 2 < 3 by decide) (show 1 < 3 by decide) (by decide) b1 oo.2.1
        have h3 := HN9_rec kr hm (oth 0 x oo.1 (by omega)) (oth 1 y oo.2.1 (by omega)) (fun _ => spi z oz h (by omega)) (by omega) (by omega) (by omega)
        refine ⟨⟨by omega, by omega⟩, fun t k tb nt => ?_⟩
        obtain ⟨⟨a1, a2⟩, ⟨a3, a4⟩, a5, a6⟩ := h3.2 t k tb nt
        exact ⟨⟨by omega, by omega⟩, ⟨by omega, by omega⟩, by omega, by omega⟩
end PmIp
